/-! ===== served: the law's own method, which catches ===== -/
def rmV : Room := { frames := 7, cells := 1, slots := 6, locals := 140 }
theorem XZ.moved {A B : Nat → Prop} {s U : State} {H : Heap} (hW : s.WarmedH U.vm) (hAB : ∀ q, B q → A q) (h : XZ A s H) : XZ B U H :=
  ⟨(vx_Zq.moved hW.alike h.1).narrow hAB, (vx_Zq.moved hW.alike h.2.1).narrow hAB, fun w hw => xz_warm w hw hW (h.2.2 w hw)⟩
theorem XZ.kept {A : Nat → Prop} {s : State} {H H1 : Heap} (hk : ∀ a : Nat, a < H.size → ¬ A a → H1[a]? = H[a]?) (h : XZ A s H) : XZ A s H1 := ⟨h.1.kept hk, h.2.1.kept hk, h.2.2⟩
section SV3
variable {ρ : Rf} {μ : Mem} {σ : Sg} {i : Int}
set_option maxRecDepth 100000 in
set_option maxHeartbeats 4000000 in
theorem c_served (hi : i32 i) (hM : MOk GG ρ μ) (h : CI ρ μ σ) (hS : SI σ) (l : Launch) (hfl : l.stackTraces = false) (D : va_G) (cA : Nat → ClassId) (ad : Nat × Nat) (φ : Nat → Nat) (sz : Nat) :
    Met l yL_served (Cond.codeWith yL_served cL_served 4 (some .int) [(0, 9, 12, 13)] :: Wd) rmV (fun a U => PcX [qP 0, qI i, qP 208] GG ρ μ D cA ad φ sz a U ∧ XZ (va_A (wsOf φ cA GG.2 ρ μ) sz) U U.heap) (QcX 1 GG.2.length φ GG (fun z ρ' μ' => ρ' = ρ ∧ ((svd σ i = -1 ∧ z = 1 ∧ μ' = μ) ∨ (0 ≤ svd σ i ∧ z = 0 ∧ μ' = up2 μ 208 0 (svd σ i)))) D cA (va_A (wsOf φ cA GG.2 ρ μ) sz)) 1 6 (va_A (wsOf φ cA GG.2 ρ μ) sz) := by
  refine va_MetW (cc := cL_served) (maxL := 4) (ret := some .int) (hh := [(0, 9, 12, 13)]) (ws' := Wd) (by decide +kernel) rfl ?_
  intro p e s m args below meth c s₁ B hml hv
  obtain ⟨⟨rfl, hsz, hP, hK, hD0, hEN⟩, hZ⟩ := hv
  have hx := B.exec
  have hb := B.bytes
  have hr := B.returns
  have hts := atoms_spec (ws := Cond.codeWith yL_served cL_served 4 (some .int) [(0, 9, 12, 13)] :: Wd) B.pre
  have htab := vx_table (x := yL_served) B (hts _ List.mem_cons_self)
  have hwd : ∀ w ∈ Wd, w.before _ s = true := fun w hw => hts w (List.mem_cons_of_mem _ hw)
  have hown : s.vm.findClass RL = some m.cls := findClass_of_methodNamed B.named
  subst hsz
  have hD := hD0.self (sz := s.heap.size)
  have R : RC RL cL_served p s m ([qP 0, qI i, qP 208].map (vlf φ)).toArray c D cA ad (va_A (wsOf φ cA GG.2 ρ μ) s.heap.size) := ⟨hx, hb, hown, hwd, hEN, hK, fun q hq => Or.inr hq⟩
  have hv0 : vlf φ (qP 0) = .ref (φ 0) := vlf_P hM sh0
  have hv8 : vlf φ (qP 208) = .ref (φ 208) := vlf_P hM sh208
  have hl := lv_entry ([qP 0, qI i, qP 208].map (vlf φ)) (n := 4) (Nat.le_of_ble_eq_true rfl)
  rw [lg_entry_eq]
  generalize (lg_sl ([qP 0, qI i, qP 208].map (vlf φ)) ++ List.replicate (4 - (lg_sl ([qP 0, qI i, qP 208].map (vlf φ))).length) Slot.unset).toArray = ls at hl ⊢
  have hl : lv_has ls 4 (lv_args 0 [vlf φ (qP 0), .int (Int32.ofInt i), vlf φ (qP 208)]) := hl
  rw [hv0, hv8] at hl
  have hl : lv_has ls 4 [(0, .ref (φ 0)), (1, .int (Int32.ofInt i)), (2, .ref (φ 208))] := hl
  have hall := xz_all hwd hZ.2.2
  refine lv_aload_n hx hb dL_served_0 rfl (lv_at hl 2 rfl) ?_
  refine lv_iconst hx hb dL_served_1 rfl ?_
  refine lv_aload_n hx hb dL_served_2 rfl (lv_at hl 0 rfl) ?_
  refine lv_iload_n hx hb dL_served_3 rfl (lv_at hl 1 rfl) ?_
  have he := wsOf_get (φ := φ) (cA := cA) (ρ := ρ) (μ := μ) sh0
  rw [cellE_obj (vwCl_lt (rfl : vwCl[7]? = some (RX7, TX7, 13)))] at he
  have hpre : PreV s s.heap RX7 (φ 0) (fun a U => PcX [qP 0, qI i] GG ρ μ D cA ad φ s.heap.size a U ∧ XZ (va_A (wsOf φ cA GG.2 ρ μ) s.heap.size) U U.heap) [.int (Int32.ofInt i)] := by
    refine ⟨fun a U g mk q => ⟨PcX_blind a U g mk q.1, XZ.moved (s := U) (U := U.calling g mk a) (State.WarmedH.refl U) (fun _ h => h) q.2⟩, va_recv hK hP (rfl : vwCl[7]? = some (RX7, TX7, 13)) he, fun U hU hW => ⟨?_, ?_⟩⟩
    · have h1 := RC_pre (as := [.ref (φ 0), .int (Int32.ofInt i)]) R hP hD va_S.rf U hU hW
      show PcX [qP 0, qI i] GG ρ μ D cA ad φ s.heap.size _ U
      unfold PcX
      rw [List.map_cons, hv0]
      exact h1
    · rw [hU]
      exact XZ.moved hW (fun _ h => h) hZ
  refine vx_calli (H := s.heap) (locs := []) (A0 := va_A (wsOf φ cA GG.2 ρ μ) s.heap.size) (vx_runV (As := [.int (Int32.ofInt i)]) (own := RL) (C := RX7) (n := 1) (rest := [.int 0, .ref (φ 208)]) ⟨hx, hb, rfl, hown, hwd⟩ (c_servedX hi hM h hS l hfl D cA ad φ s.heap.size) ⟨⟨rfl, rfl, by decide, by decide, pay_in hwd (good_ws' kC_X7_served), List.mem_cons_self, hwd _ kC_X7_served, hwd _ kZ_X7, ⟨by decide +kernel, by decide +kernel⟩, na_of (by decide +kernel), hwd _ kM_L_7⟩, hwd _ kI_X7_served, hwd _ kS_X7_served⟩ hpre rfl rfl (hl.1.trans hml.symm) rfl (lv_room (by show (2 : Nat) ≤ 8; decide)) dL_served_4 (by decide)) va_S.rf (fun q _ h => h) (fun q h => h) (fun q _ h => h) ?_ ?_
  · intro E ce q9 φ' t H1 locs1 ht hvm hpx hbx hz hk hS1 hce hcv hcl
    obtain ⟨vn, hφ⟩ := hpx
    obtain ⟨hE, hP1, hD1⟩ := hbx
    rw [ht] at hP1
    subst hE
    refine vx_catch (own := RL) (name := NSE) (E := NSE) hown [] ⟨0, 9, 12, 13⟩ [] (by rw [htab]; rfl) (fun z hz => nomatch hz) (by decide) (by decide) (hwd _ kL_L_13) (hall _ (by decide +kernel)) hce hcv hcl ?_
    refine lv_astore_n (lv' := [(3, .ref q9), (0, .ref (φ 0)), (1, .int (Int32.ofInt i)), (2, .ref (φ 208))]) hx hb dL_served_12 rfl hl (by decide) rfl (fun ls hl => ?_)
    refine lv_iconst hx hb dL_served_13 rfl ?_
    exact W.zret (ty := .int) hx hb hr rfl (fun t ht hW => ⟨⟨Int32.ofInt 1, (φ', ρ, μ, 1), rfl, ⟨rfl, hφ, hM, ⟨rfl, Or.inl ⟨vn, rfl, rfl⟩⟩, (by show i32 1; unfold i32; omega)⟩, by rw [ht]; exact hP1, hD1⟩, hS1.F ht⟩) hS1.2.2 dL_served_14
  · intro r u t H1 locs1 ht hvm hq hbx hz hk hS1
    obtain ⟨φ', ρ', μ', z⟩ := u
    obtain ⟨hr', hφ, hM', ⟨v0, hv, e1, e2⟩, h32⟩ := hq
    obtain ⟨hP1, hD1⟩ := hbx
    dsimp only at hr' hφ hM' v0 hv e1 e2 h32 hP1 hD1
    subst e1 e2
    rw [ht] at hP1
    have h32 : i32 z := h32
    have h64 : i64 z := by unfold i32 at h32; unfold i64; omega
    rw [hr']
    refine lv_i2l (v := Int64.ofInt z) hx hb dL_served_7 (q_i2l h32) ?_
    have e8 : φ 208 = φ' 208 := (hφ 208 (List.getElem?_eq_some_iff.mp sh208).1).symm
    rw [e8]
    refine w_last R (a := 208) (n := 1) (i := 0) h64 i32_0 hM' dL_served_8 sh208 ⟨by decide, by decide⟩ hP1 hD1 hS1 (fun H2 locs2 hM2 hP2 hD2 hS2 => ?_)
    refine lv_goto (tgt := 15) hx hb dL_served_9 rfl ?_
    refine lv_iconst hx hb dL_served_15 rfl ?_
    exact W.zret (ty := .int) hx hb hr rfl (fun t ht hW => ⟨⟨Int32.ofInt 0, (φ', _, up2 _ 208 0 z, 0), rfl, ⟨rfl, hφ, hM2, ⟨rfl, Or.inr ⟨v0, rfl, by rw [hv]⟩⟩, (by show i32 0; unfold i32; omega)⟩, by rw [ht]; exact hP2, hD2⟩, hS2.F ht⟩) hS2.2.2 dL_served_16
end SV3
