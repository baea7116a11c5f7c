/-! ===== served: the class's method, whole ===== -/
def NSE : String := "java/util/NoSuchElementException"
def nsN : List String := ["java/lang/RuntimeException", "java/lang/Exception"]
def xzW : List Cond := (Cond.classLink RX7 328 NSE :: Cond.initialized NSE :: vx_at0 RX7 330 NSE nsN).filter (fun w => !goodWord w)
/-- what a throw needs beside the words -/
def XZ (A : Nat → Prop) (U : State) (H : Heap) : Prop := vx_Zq Bundle.tN "UNASSIGNED_STACK" Bundle.steD A U H ∧ vx_Zq Bundle.tN "SUPPRESSED_SENTINEL" Bundle.listD A U H ∧ ∀ w ∈ xzW, va_Nw w U
theorem xz_ot : ((Cond.classLink RX7 328 NSE :: Cond.initialized NSE :: vx_at0 RX7 330 NSE nsN).all fun w => vx_ot w) = true := by decide +kernel
theorem xz_gd : ((Cond.classLink RX7 328 NSE :: Cond.initialized NSE :: vx_at0 RX7 330 NSE nsN).all fun w => !(goodWord w) || decide (w ∈ Wd)) = true := by decide +kernel
theorem xz_on : (xzW.all fun w => w.onTables) = true := by decide +kernel
theorem xz_k : (xzW.all fun w => match w with | .castable _ _ => true | .declares _ => true | _ => false) = true := by decide +kernel
theorem xz_warm (w : Cond) (hw : w ∈ xzW) {s U : State} (hW : s.WarmedH U.vm) (h : va_Nw w s) : va_Nw w U := by
  have hk := List.all_eq_true.mp xz_k w hw
  cases w with
  | castable a b => exact va_Nw.warmC hW h
  | declares x => exact va_Nw.warmD hW h
  | _ => exact absurd (show false = true from hk) Bool.false_ne_true
theorem xz_all {s : State} {args : Array Value} (hts : ∀ w ∈ Wd, w.before args s = true) (hx : ∀ w ∈ xzW, va_Nw w s) : ∀ w ∈ (Cond.classLink RX7 328 NSE :: Cond.initialized NSE :: vx_at0 RX7 330 NSE nsN), w.before args s = true := by
  intro w hw
  by_cases g : goodWord w = true
  · have h := List.all_eq_true.mp xz_gd w hw
    rw [g] at h
    exact hts w (of_decide_eq_true h)
  · have hm : w ∈ xzW := List.mem_filter.mpr ⟨hw, by cases hgw : goodWord w; rfl; exact absurd hgw g⟩
    exact va_Nw.use (List.all_eq_true.mp xz_on w hm) (hx w hm)
def rmS : Room := { frames := 6, cells := 1, slots := 6, locals := 110 }
theorem cm_X7_324' : CM RX7 324 3 2 mX3_jobThatUnloads := ⟨(RX3, TX3, 14), rfl, kM_X7_324, kI_X3_jobThatUnloads, kS_X3_jobThatUnloads, kZ_X3, kC_X3_jobThatUnloads, ⟨by decide +kernel, by decide +kernel⟩, by decide +kernel⟩
section SV2
variable {ρ : Rf} {μ : Mem} {σ : Sg} {i : Int}
set_option maxRecDepth 100000 in
set_option maxHeartbeats 4000000 in
theorem c_servedX (hi : i32 i) (hM : MOk GG ρ μ) (h : CI ρ μ σ) (hS : SI σ) (l : Launch) (hfl : l.stackTraces = false) (D : va_G) (cA : Nat → ClassId) (ad : Nat × Nat) (φ : Nat → Nat) (sz : Nat) :
    vx_Met l yX7_served (Cond.code yX7_served cX7_served 3 (some .int) :: Wd) rmS (fun a U => PcX [qP 0, qI i] GG ρ μ D cA ad φ sz a U ∧ XZ (va_A (wsOf φ cA GG.2 ρ μ) sz) U U.heap) (QcX 1 GG.2.length φ GG (fun z ρ' μ' => 0 ≤ svd σ i ∧ z = svd σ i ∧ ρ' = ρ ∧ μ' = μ) D cA (va_A (wsOf φ cA GG.2 ρ μ) sz))
      (vx_X (fun φ' : Nat → Nat => svd σ i = -1 ∧ ∀ j, j < GG.2.length → φ' j = φ j) (fun E φ' t => E = NSE ∧ va_P D vwCl (wsOf φ' cA GG.2 ρ μ) t.heap ∧ va_D (va_A (wsOf φ cA GG.2 ρ μ) sz) (wsOf φ' cA GG.2 ρ μ)) (va_A (wsOf φ cA GG.2 ρ μ) sz)) 1 6 (va_A (wsOf φ cA GG.2 ρ μ) sz) := by
  refine vx_ofW (cc := cX7_served) (maxL := 3) (ret := some .int) (ws' := Wd) (by decide +kernel) rfl ?_
  intro p e s m args below meth c s₁ B hml hnt hv
  obtain ⟨⟨rfl, hsz, hP, hK, hD0, hEN⟩, hU, hN, hxw⟩ := hv
  have hx := B.exec
  have hb := B.bytes
  have hr := B.returns
  have hts := atoms_spec (ws := Cond.code yX7_served cX7_served 3 (some .int) :: Wd) B.pre
  have hwd : ∀ w ∈ Wd, w.before _ s = true := fun w hw => hts w (List.mem_cons_of_mem _ hw)
  have hown : s.vm.findClass RX7 = some m.cls := findClass_of_methodNamed B.named
  subst hsz
  have hD := hD0.self (sz := s.heap.size)
  have R : RC RX7 cX7_served p s m ([qP 0, qI i].map (vlf φ)).toArray c D cA ad (va_A (wsOf φ cA GG.2 ρ μ) s.heap.size) := ⟨hx, hb, hown, hwd, hEN, hK, fun q hq => Or.inr hq⟩
  have hv0 : vlf φ (qP 0) = .ref (φ 0) := vlf_P hM sh0
  have hl := lv_entry ([qP 0, qI i].map (vlf φ)) (n := 3) (Nat.le_of_ble_eq_true rfl)
  rw [lg_entry_eq]
  generalize (lg_sl ([qP 0, qI i].map (vlf φ)) ++ List.replicate (3 - (lg_sl ([qP 0, qI i].map (vlf φ))).length) Slot.unset).toArray = ls at hl ⊢
  have hl : lv_has ls 3 (lv_args 0 [vlf φ (qP 0), .int (Int32.ofInt i)]) := hl
  rw [hv0] at hl
  have hl : lv_has ls 3 [(0, .ref (φ 0)), (1, .int (Int32.ofInt i))] := hl
  have hp0 : μ 0 10 = σ 0 4 := h.2.2.2.2.2.2.2.1
  have hb01 := hS.2.2.1
  have hsb := sv_b (g := sGo (σ 2) (-1) (-1) Z0 199) (n := σ 2 87) 21 0 i (by omega)
  have hsd : svd σ i = -1 ∨ 0 ≤ svd σ i := by unfold svd; split; exact hsb; exact Or.inl rfl
  have hall := xz_all hwd hxw
  have tail : ∀ (φ' : Nat → Nat) (H : Heap) (locs : List Loc) (ls : Array Slot) (v : Int), i32 v → v = svd σ i → (∀ j, j < GG.2.length → φ' j = φ j) → va_P D vwCl (wsOf φ' cA GG.2 ρ μ) H → va_D (va_A (wsOf φ cA GG.2 ρ μ) s.heap.size) (wsOf φ' cA GG.2 ρ μ) → va_S (va_A (wsOf φ cA GG.2 ρ μ) s.heap.size) s.heap H locs → ls.size = 3 → ls[2]? = some (.val (.int (Int32.ofInt v))) →
      W p l e rmS s m ([qP 0, qI i].map (vlf φ)).toArray below meth c H locs 0 0 (vx_MQ below (QcX 1 GG.2.length φ GG (fun z ρ' μ' => 0 ≤ svd σ i ∧ z = svd σ i ∧ ρ' = ρ ∧ μ' = μ) D cA (va_A (wsOf φ cA GG.2 ρ μ) s.heap.size)) (vx_X (fun φ' : Nat → Nat => svd σ i = -1 ∧ ∀ j, j < GG.2.length → φ' j = φ j) (fun E φ' t => E = NSE ∧ va_P D vwCl (wsOf φ' cA GG.2 ρ μ) t.heap ∧ va_D (va_A (wsOf φ cA GG.2 ρ μ) s.heap.size) (wsOf φ' cA GG.2 ρ μ)) (va_A (wsOf φ cA GG.2 ρ μ) s.heap.size)) ([qP 0, qI i].map (vlf φ)).toArray s 1 6 (va_A (wsOf φ cA GG.2 ρ μ) s.heap.size)) (F0 m 26 ls []) := by
    intro φ' H locs ls v hv32 hv hφ hP hD hS hsz h2
    refine lv_iload_n hx hb dX7_served_26 rfl h2 ?_
    refine lv_if_ge (tgt := 38) hx hb dX7_served_27 rfl (fun hc => ?_) (fun hc => ?_)
    · have v0 : 0 ≤ v := by
        rcases hsd with h | h
        · exfalso
          rw [hv, h] at hc
          exact absurd hc (by decide)
        · omega
      refine lv_iload_n hx hb dX7_served_38 rfl h2 ?_
      refine vx_ret ?_
      refine W.widen (k := 1) (n := 6) (by omega) (by omega) ?_
      exact W.zret (ty := .int) hx hb hr rfl (fun t ht hW => ⟨⟨Int32.ofInt v, (φ', ρ, μ, v), rfl, ⟨rfl, hφ, hM, ⟨by omega, hv, rfl, rfl⟩, hv32⟩, by rw [ht]; exact hP, hD⟩, hS.F ht⟩) hS.2.2 dX7_served_39
    · have vn : svd σ i = -1 := by
        rcases hsd with h | h
        · exact h
        · exfalso
          have : (0 : Int32) ≤ Int32.ofInt v := by
            rw [show (0 : Int32) = Int32.ofInt 0 from rfl, Int32.le_iff_toInt_le, toInt_i32 i32_0, toInt_i32 hv32]
            omega
          exact hc this
      refine vx_throw0 (own := RX7) (cls := NSE) (names := nsN) (ik := 328) (ic := 330) (A := va_A (wsOf φ cA GG.2 ρ μ) s.heap.size) hx hb hfl hown (by decide +kernel) (by decide +kernel) (hall _ List.mem_cons_self) (hall _ (List.mem_cons_of_mem _ List.mem_cons_self)) (fun w hw => hall w (List.mem_cons_of_mem _ (List.mem_cons_of_mem _ hw))) (fun w hw => List.all_eq_true.mp xz_ot w hw) hU hN hS (hsz.trans hml.symm) dX7_served_30 dX7_served_33 dX7_served_34 dX7_served_37 (fun x hx => (hnt x hx).elim) (by decide) (by decide) (by decide) (by decide) B.notSynchronized (fun t hvm hz hk => ?_) hS.2.2 (by decide) (by decide)
      refine ⟨φ', ⟨vn, hφ⟩, ⟨rfl, hP.kept (fun k x hx => hk x.1 ((hP k x hx).lt)), hD⟩, ⟨Nat.le_trans hS.1 hz, fun q h1 h2 => ?_⟩⟩
      rw [hk q (Nat.lt_of_lt_of_le h1 hS.1)]
      exact hS.2.1 q h1 h2
  refine lv_iconst hx hb dX7_served_0 rfl ?_
  refine lv_istore_n (lv' := [(2, .int (Int32.ofInt (-1))), (0, .ref (φ 0)), (1, .int (Int32.ofInt i))]) hx hb dX7_served_1 rfl hl (by decide) rfl (fun ls hl => ?_)
  refine lv_aload_n hx hb dX7_served_2 rfl (lv_at hl 1 rfl) ?_
  refine w_getF (v := qI (μ 0 10)) R dX7_served_3 fs_X7_106 sh0 rfl hP ?_
  have i10 : i32 (μ 0 10) := by rw [hp0]; unfold i32; omega
  refine lv_if_eq (tgt := 26) hx hb dX7_served_6 rfl (fun hc => ?_) (fun hc => ?_)
  · have c0 : μ 0 10 = 0 := (q_eq i10 i32_0).mp hc
    exact tail φ s.heap [] ls (-1) (by unfold i32; omega) (if_neg (by omega)).symm (fun _ _ => rfl) hP hD va_S.rf hl.1 (lv_at hl 0 rfl)
  · have c1 : σ 0 4 = 1 := by
      have : ¬ μ 0 10 = 0 := fun y => hc ((q_eq i10 i32_0).mpr y)
      omega
    refine lv_iload_n hx hb dX7_served_9 rfl (lv_at hl 2 rfl) ?_
    refine lv_if_lt (tgt := 26) hx hb dX7_served_10 rfl (fun hc => ?_) (fun hc => ?_)
    · have ci : i < 0 := (q_lt hi i32_0).mp hc
      exact tail φ s.heap [] ls (-1) (by unfold i32; omega) (if_neg (by omega)).symm (fun _ _ => rfl) hP hD va_S.rf hl.1 (lv_at hl 0 rfl)
    · have ci : 0 ≤ i := by
        have : ¬ i < 0 := fun y => hc ((q_lt hi i32_0).mpr y)
        omega
      have pl := h.pl hS c1
      have n := pl.1.n
      have e1 : ρ 0 (1 : Nat) = 27 := hM.2.2.1 rfl 0 (7, 0) sh0 1 26 rfl
      have e87 : μ (ρ 0 9) 6 = σ 2 87 := pl.2.2.1.2.2.2
      have hlt : ρ 0 9 < GG.2.length := (List.getElem?_eq_some_iff.mp h.1.s).1
      refine lv_aload_n hx hb dX7_served_13 rfl (lv_at hl 1 rfl) ?_
      refine w_getF (v := qP 27) R dX7_served_14 fs_X7_19 sh0 (by rw [e1]; rfl) hP ?_
      refine lv_aload_n hx hb dX7_served_17 rfl (lv_at hl 1 rfl) ?_
      refine w_getF (v := qP (ρ 0 9)) R dX7_served_18 fs_X7_64 sh0 rfl hP ?_
      refine lv_iload_n hx hb dX7_served_21 rfl (lv_at hl 2 rfl) ?_
      refine w_callQ (Mc := mX3_jobThatUnloads) (as := [qP (ρ 0 9), qI i]) (o := 27) (st := []) R cm_X7_324' (k_jobThat (o := 27) (s := ρ 0 9) (g := sGo (σ 2) (-1) (-1) Z0 199) (i := i) rfl h.1.s (by omega) (fun j j0 j1 => ?_)) sh27 (okS_c (Or.inl hlt) (okS_c hi okS_0)) rfl (by decide) (hl.1.trans hml.symm) (by show (0 : Nat) ≤ 8; decide) (by decide) (by rw [vlf_P hM sh27]; rfl) dX7_served_22 hM hP hD va_S.rf (fun z φ' ρ' μ' H1 locs1 h1 h2 h3 h4 h5 h6 h7 => ?_)
      · have r := (pl.2.2.2 Z0).1 j j0 (by omega)
        exact ⟨r.1.2.2.2.1, r.2.1.2.2.2.1⟩
      · obtain ⟨hz, rfl, rfl⟩ := h1
        refine lv_istore_n (lv' := [(2, .int (Int32.ofInt z)), (0, .ref (φ 0)), (1, .int (Int32.ofInt i))]) hx hb dX7_served_25 rfl hl (by decide) rfl (fun ls hl => ?_)
        exact tail φ' H1 locs1 ls z h2 (by rw [hz, e87]; exact (if_pos ⟨c1, ci⟩).symm) h3 h5 h6 h7 hl.1 (lv_at hl 0 rfl)
end SV2
