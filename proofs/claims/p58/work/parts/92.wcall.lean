/-! ===== calls from a bare frame; the JDK's own members on the text constant ===== -/
def PcV (as : List Value) (G : Gx) (ρ : Rf) (μ : Mem) (D : va_G) (cA : Nat → ClassId) (ad : Nat × Nat) (φ : Nat → Nat) (sz : Nat) : Array Value → State → Prop :=
  va_Pc as (fun U => U.heap.size = sz ∧ va_P D vwCl (wsOf φ cA G.2 ρ μ) U.heap ∧ va_K D vwCl (tysOf cA) U ∧ va_D (fun _ => True) (wsOf φ cA G.2 ρ μ) ∧ EN ad (va_A (wsOf φ cA G.2 ρ μ) sz) U U.heap)
theorem PcV_blind {as : List Value} {G : Gx} {ρ : Rf} {μ : Mem} {D : va_G} {cA : Nat → ClassId} {ad : Nat × Nat} {φ : Nat → Nat} {sz : Nat} : FrameBlind (PcV as G ρ μ D cA ad φ sz) := by
  intro a U g mk h
  obtain ⟨h1, h2, h3, h4, h5, h6⟩ := h
  exact ⟨h1, h2, h3, va_K.moved (u := U) (U := U.calling g mk a) (Vm.Alike.refl U.vm) h4, h5, EN.same (u := U) (U := U.calling g mk a) rfl h6⟩
/-- what a bare frame of ours knows -/
def RC (own : String) (cc : ByteArray) (p : Program) (s : State) (m : MethodId) (args : Array Value) (c : Code) (D : va_G) (cA : Nat → ClassId) (ad : Nat × Nat) (A : Nat → Prop) : Prop :=
  p.tables.exec = Jvm.exec ∧ c.code = cc ∧ s.vm.findClass own = some m.cls ∧ (∀ w ∈ Wd, w.before args s = true) ∧ EN ad A s s.heap ∧ va_K D vwCl (tysOf cA) s ∧ ∀ q : Nat, s.heap.size ≤ q → A q
theorem good_ws' {y : MethodName} {yc : ByteArray} {n : Nat} {r : Option FieldType} (h : Cond.code y yc n r ∈ Wd) : ∀ w ∈ (Cond.code y yc n r :: Wd), w ∈ Wd ∧ ((w.onTables && w.keeps) = true ∨ ∃ ty, w = .arrayClass ty) := by
  intro w hw
  rcases List.mem_cons.mp hw with e | e
  · subst e; exact ⟨h, good_of_word (Wd_good h)⟩
  · exact ⟨e, good_of_word (Wd_good e)⟩
section WCALL
variable {p : Program} {l : Launch} {e : Env} {R : Room} {s : State} {m : MethodId} {args : Array Value} {below : List Frame} {meth : Method} {c : Code} {D : va_G} {cA : Nat → ClassId} {ad : Nat × Nat} {A : Nat → Prop} {Q : State → Prop} {G Gc : Gx} {ρ : Rf} {μ : Mem} {φ : Nat → Nat} {H : Heap} {locs : List Loc} {cells slots mc ms : Nat} {k pc : Nat} {ls : Array Slot} {g st : List Value} {Post' : Int → Rf → Mem → Prop}
set_option maxHeartbeats 4000000 in
theorem w_after {a : Array Value} (hA : ∀ q : Nat, s.heap.size ≤ q → A q) (hD : va_D A (wsOf φ cA G.2 ρ μ)) (hS : va_S A s.heap H locs)
    (hr : va_Run p l e R s m args below meth c H locs cells slots mc ms (F0 m pc ls g) st (QcX k G.2.length φ Gc Post' D cA (va_A (wsOf φ cA G.2 ρ μ) H.size) a) (va_A (wsOf φ cA G.2 ρ μ) H.size))
    (kk : ∀ (z : Int) (φ' : Nat → Nat) (ρ' : Rf) (μ' : Mem) (H1 : Heap) (locs1 : List Loc), Post' z ρ' μ' → retOk k z → (∀ i, i < G.2.length → φ' i = φ i) → MOk Gc ρ' μ' → va_P D vwCl (wsOf φ' cA Gc.2 ρ' μ') H1 → va_D A (wsOf φ' cA Gc.2 ρ' μ') → va_S A s.heap H1 locs1 → W p l e R s m args below meth c H1 locs1 (cells + mc) (slots + ms) Q (F0 m (pc + 3) ls (retV k z ++ st))) :
    W p l e R s m args below meth c H locs cells slots Q (F0 m pc ls g) := by
  have hF := AofH_in hD hA hS
  have fin : ∀ (u : (Nat → Nat) × Rf × Mem × Int) (H1 : Heap) (locs1 : List Loc) (t : State), t.heap = H1 → QPst k G.2.length φ Gc Post' u → QBst D cA Gc (va_A (wsOf φ cA G.2 ρ μ) H.size) u t → va_S A s.heap H1 locs1 → W p l e R s m args below meth c H1 locs1 (cells + mc) (slots + ms) Q (F0 m (pc + 3) ls (retV k u.2.2.2 ++ st)) := by
    intro u H1 locs1 t ht hq hb hS1
    obtain ⟨q1, q2, q3, q4⟩ := hq
    obtain ⟨b1, b2⟩ := hb
    rw [ht] at b1
    exact kk _ _ _ _ H1 locs1 q3 q4 q1 q2 b1 (b2.weaken (fun _ q _ h => hF _ h)) hS1
  clear kk
  match k, hr, fin with
  | 0, hr, fin =>
    refine va_callv (a := a) hr hS (fun q _ h => hF q h) hF (fun u t H1 locs1 ht hvm hq hb hz1 hk1 hS1 => ?_)
    exact fin u H1 locs1 t ht hq hb hS1
  | 2, hr, fin =>
    refine va_calll (a := a) hr hS (fun q _ h => hF q h) hF (fun r u t H1 locs1 ht hvm hq hb hz1 hk1 hS1 => ?_)
    have h1 := fin u H1 locs1 t ht hq.2 hb hS1
    rw [show retV 2 u.2.2.2 ++ st = .long r :: st by rw [hq.1]; rfl] at h1
    exact h1
  | 1, hr, fin =>
    refine va_calli (a := a) hr hS (fun q _ h => hF q h) hF (fun r u t H1 locs1 ht hvm hq hb hz1 hk1 hS1 => ?_)
    have h1 := fin u H1 locs1 t ht hq.2 hb hS1
    rw [show retV 1 u.2.2.2 ++ st = .int r :: st by rw [hq.1]; rfl] at h1
    exact h1
  | k + 3, hr, fin =>
    refine va_calli (a := a) hr hS (fun q _ h => hF q h) hF (fun r u t H1 locs1 ht hvm hq hb hz1 hk1 hS1 => ?_)
    have h1 := fin u H1 locs1 t ht hq.2 hb hS1
    rw [show retV (k + 3) u.2.2.2 ++ st = .int r :: st by rw [hq.1]; rfl] at h1
    exact h1
theorem RC_pre {own : String} {cc : ByteArray} (C : RC own cc p s m args c D cA ad A) {as : List Value} (hP : va_P D vwCl (wsOf φ cA G.2 ρ μ) H) (hD : va_D A (wsOf φ cA G.2 ρ μ)) (hS : va_S A s.heap H locs) (U : State) (hU : U.heap = H) (hW : s.WarmedH U.vm) : PcV as G ρ μ D cA ad φ H.size as.toArray U := by
  have hF := AofH_in hD C.2.2.2.2.2.2 hS
  refine ⟨rfl, by rw [hU], by rw [hU]; exact hP, va_K.moved hW.alike C.2.2.2.2.2.1, hD.weaken (fun _ _ _ _ => trivial), ?_⟩
  rw [hU]
  exact ((C.2.2.2.2.1.kept hS.2.1).warm hW).narrow hF
set_option maxHeartbeats 4000000 in
theorem w_callV {own Cn : String} {cc : ByteArray} (C : RC own cc p s m args c D cA ad A) {y : MethodName} {yc : ByteArray} {n na ix b : Nat} {ret : Option FieldType} {rm : Room} {as : List Value} (hM : Met l y (Cond.code y yc n ret :: Wd) rm (PcV (.ref b :: as) G ρ μ D cA ad φ H.size) (QcX k G.2.length φ Gc Post' D cA (va_A (wsOf φ cA G.2 ρ μ) H.size)) rm.cells rm.slots (va_A (wsOf φ cA G.2 ρ μ) H.size))
    (w1 : Cond.methodLink own ix y ∈ Wd) (w2 : Cond.instanceMethod y ∈ Wd) (w3 : Cond.selects Cn y y ∈ Wd) (w4 : Cond.initialized y.cls ∈ Wd) (w5 : Cond.code y yc n ret ∈ Wd) (w6 : noMH y) (w7 : (parseMethodDescriptor y.desc).map (fun d => d.parameters.length) = some na) (hR : rm.frames + 1 ≤ R.frames ∧ 8 + (n + 11) + rm.locals ≤ R.locals) (hrecv : ∃ cell : Cell, H[b]? = some cell ∧ cell.vm.isStatics = false ∧ s.vm.findClass Cn = some cell.cls) (hlen : as.length = na) (hsz : ls.size = c.maxLocals) (hcat : (st.map fun v => v.category).sum ≤ 8) (hst : g = as.reverse ++ .ref b :: st) (hd : decode cc pc = .ok (.invokevirtual ix, 3)) (hcap : cells + rm.cells ≤ R.cells ∧ slots + rm.slots ≤ R.slots) (hP : va_P D vwCl (wsOf φ cA G.2 ρ μ) H) (hD : va_D A (wsOf φ cA G.2 ρ μ)) (hS : va_S A s.heap H locs)
    (kk : ∀ (z : Int) (φ' : Nat → Nat) (ρ' : Rf) (μ' : Mem) (H1 : Heap) (locs1 : List Loc), Post' z ρ' μ' → retOk k z → (∀ i, i < G.2.length → φ' i = φ i) → MOk Gc ρ' μ' → va_P D vwCl (wsOf φ' cA Gc.2 ρ' μ') H1 → va_D A (wsOf φ' cA Gc.2 ρ' μ') → va_S A s.heap H1 locs1 → W p l e R s m args below meth c H1 locs1 (cells + rm.cells) (slots + rm.slots) Q (F0 m (pc + 3) ls (retV k z ++ st))) :
    W p l e R s m args below meth c H locs cells slots Q (F0 m pc ls g) := by
  subst hst
  have hts := C.2.2.2.1
  have hpre : PreV s H Cn b (PcV (.ref b :: as) G ρ μ D cA ad φ H.size) as := ⟨PcV_blind, hrecv, fun U hU hW => RC_pre C hP hD hS U hU hW⟩
  exact w_after C.2.2.2.2.2.2 hD hS (va_runV (As := as) (own := own) (C := Cn) (n := na) ⟨C.1, C.2.1, rfl, C.2.2.1, hts⟩ hM ⟨⟨rfl, rfl, hR.1, hR.2, pay_in hts (good_ws' w5), List.mem_cons_self, hts _ w5, hts _ w4, w6, na_of w7, hts _ w1⟩, hts _ w2, hts _ w3⟩ hpre rfl hlen hsz rfl (lv_room hcat) hd hcap) kk
set_option maxHeartbeats 4000000 in
theorem w_callS {own : String} {cc : ByteArray} (C : RC own cc p s m args c D cA ad A) {y : MethodName} {yc : ByteArray} {n na ix : Nat} {ret : Option FieldType} {rm : Room} {as : List Value} (hM : Met l y (Cond.code y yc n ret :: Wd) rm (PcV as G ρ μ D cA ad φ H.size) (QcX k G.2.length φ Gc Post' D cA (va_A (wsOf φ cA G.2 ρ μ) H.size)) rm.cells rm.slots (va_A (wsOf φ cA G.2 ρ μ) H.size))
    (w1 : Cond.methodLink own ix y ∈ Wd) (w2 : Cond.static y ∈ Wd) (w4 : Cond.initialized y.cls ∈ Wd) (w5 : Cond.code y yc n ret ∈ Wd) (w6 : noMH y) (w7 : (parseMethodDescriptor y.desc).map (fun d => d.parameters.length) = some na) (hR : rm.frames + 1 ≤ R.frames ∧ 8 + (n + 11) + rm.locals ≤ R.locals) (hlen : as.length = na) (hsz : ls.size = c.maxLocals) (hcat : (st.map fun v => v.category).sum ≤ 8) (hst : g = as.reverse ++ st) (hd : decode cc pc = .ok (.invokestatic ix, 3)) (hcap : cells + rm.cells ≤ R.cells ∧ slots + rm.slots ≤ R.slots) (hP : va_P D vwCl (wsOf φ cA G.2 ρ μ) H) (hD : va_D A (wsOf φ cA G.2 ρ μ)) (hS : va_S A s.heap H locs)
    (kk : ∀ (z : Int) (φ' : Nat → Nat) (ρ' : Rf) (μ' : Mem) (H1 : Heap) (locs1 : List Loc), Post' z ρ' μ' → retOk k z → (∀ i, i < G.2.length → φ' i = φ i) → MOk Gc ρ' μ' → va_P D vwCl (wsOf φ' cA Gc.2 ρ' μ') H1 → va_D A (wsOf φ' cA Gc.2 ρ' μ') → va_S A s.heap H1 locs1 → W p l e R s m args below meth c H1 locs1 (cells + rm.cells) (slots + rm.slots) Q (F0 m (pc + 3) ls (retV k z ++ st))) :
    W p l e R s m args below meth c H locs cells slots Q (F0 m pc ls g) := by
  subst hst
  have hts := C.2.2.2.1
  have hpre : PreS s H (PcV as G ρ μ D cA ad φ H.size) as := ⟨PcV_blind, fun U hU hW => RC_pre C hP hD hS U hU hW⟩
  exact w_after C.2.2.2.2.2.2 hD hS (va_runS (As := as) (own := own) (n := na) ⟨C.1, C.2.1, rfl, C.2.2.1, hts⟩ hM ⟨⟨rfl, rfl, hR.1, hR.2, pay_in hts (good_ws' w5), List.mem_cons_self, hts _ w5, hts _ w4, w6, na_of w7, hts _ w1⟩, hts _ w2⟩ hpre rfl hlen hsz rfl (lv_room hcat) hd hcap) kk
end WCALL
/-! ### contracts that change nothing -/
def jE (y : MethodName) (yc : ByteArray) (n : Nat) (ret : Option FieldType) (rm : Room) (k : Nat) (ad : Nat × Nat) (as : List Value) (v : Int) : Prop :=
  ∀ (G : Gx) (ρ : Rf) (μ : Mem), MOk G ρ μ → ∀ (l : Launch) (D : va_G) (cA : Nat → ClassId) (φ : Nat → Nat) (sz : Nat), Met l y (Cond.code y yc n ret :: Wd) rm (PcV as G ρ μ D cA ad φ sz) (QcX k G.2.length φ G (fun z ρ' μ' => z = v ∧ ρ' = ρ ∧ μ' = μ) D cA (va_A (wsOf φ cA G.2 ρ μ) sz)) rm.cells rm.slots (va_A (wsOf φ cA G.2 ρ μ) sz)
set_option maxHeartbeats 4000000 in
theorem jE_intro {y : MethodName} {yc : ByteArray} {n : Nat} {ret : Option FieldType} {rm : Room} {k : Nat} {ad : Nat × Nat} {as : List Value} {v : Int} (hy : plainName y.cls = true) (hlen : (lg_sl as).length ≤ n) (hk : (k = 0 ∧ ret = none ∧ v = 0) ∨ (k = 1 ∧ i32 v ∧ ∃ ty, ret = some ty ∧ narrow ty (.int (Int32.ofInt v)) = .int (Int32.ofInt v)))
    (h : ∀ {p : Program} {l : Launch} {e : Env} {s : State} {m : MethodId} {args : Array Value} {below : List Frame} {meth : Method} {c : Code} {D : va_G} {cA : Nat → ClassId} {A : Nat → Prop} {Q : State → Prop} {G : Gx} {ρ : Rf} {μ : Mem} {φ : Nat → Nat} (ls : Array Slot), RC y.cls yc p s m args c D cA ad A → MOk G ρ μ → c.maxLocals = n → va_P D vwCl (wsOf φ cA G.2 ρ μ) s.heap → va_D A (wsOf φ cA G.2 ρ μ) → lv_has ls n (lv_args 0 as) →
      (∀ (φ' : Nat → Nat) (H : Heap) (locs : List Loc) (pc : Nat) (ls' : Array Slot), (∀ i, i < G.2.length → φ' i = φ i) → va_P D vwCl (wsOf φ' cA G.2 ρ μ) H → va_D A (wsOf φ' cA G.2 ρ μ) → va_S A s.heap H locs → decode yc pc = .ok (retI k, 1) → W p l e rm s m args below meth c H locs rm.cells rm.slots Q (F0 m pc ls' (retV k v))) →
      W p l e rm s m args below meth c s.heap [] 0 0 Q (F0 m 0 ls [])) : jE y yc n ret rm k ad as v := by
  intro G ρ μ hM l D cA φ sz
  refine Met.ofW (cc := yc) (maxL := n) (ret := ret) (ws' := Wd) hy rfl ?_
  intro p e s m args below meth c s₁ B hml hv
  obtain ⟨rfl, hsz, hP, hK, hD0, hEN⟩ := hv
  have hx := B.exec
  have hb := B.bytes
  have hr := B.returns
  have hts := atoms_spec (ws := Cond.code y yc n ret :: Wd) B.pre
  have hown : s.vm.findClass y.cls = some m.cls := findClass_of_methodNamed B.named
  subst hsz
  have hD := hD0.self (sz := s.heap.size)
  have hl := lv_entry as (n := n) hlen
  rw [lg_entry_eq]
  generalize (lg_sl as ++ List.replicate (n - (lg_sl as).length) Slot.unset).toArray = ls at hl ⊢
  refine h ls ⟨hx, hb, hown, fun w hw => hts w (List.mem_cons_of_mem _ hw), hEN, hK, fun q hq => Or.inr hq⟩ hM hml hP hD hl ?_
  intro φ' H locs pc ls' hφ hP' hD' hS' hd
  rcases hk with ⟨rfl, rfl, rfl⟩ | ⟨rfl, hv32, ty, rfl, hn⟩
  · exact W.vret hx hb hr (fun t ht hW => ⟨⟨(φ', ρ, μ, 0), rfl, ⟨hφ, hM, ⟨rfl, rfl, rfl⟩, rfl⟩, by rw [ht]; exact hP', hD'⟩, hS'.F ht⟩) hS'.2.2 hd
  · exact W.zret (ty := ty) hx hb hr hn (fun t ht hW => ⟨⟨Int32.ofInt v, (φ', ρ, μ, v), rfl, ⟨rfl, hφ, hM, ⟨rfl, rfl, rfl⟩, hv32⟩, by rw [ht]; exact hP', hD'⟩, hS'.F ht⟩) hS'.2.2 hd
/-! ### the text constant -/
def rmL : Room := { frames := 0, cells := 0, slots := 0, locals := 0 }
def rmC : Room := { frames := 1, cells := 0, slots := 0, locals := 22 }
def rmA : Room := { frames := 2, cells := 0, slots := 0, locals := 43 }
def rmT : Room := { frames := 3, cells := 0, slots := 0, locals := 64 }
theorem jm_check3 {ad : Nat × Nat} {i n : Int} {f : Value} (hf : f.category = 1) (h0 : 0 ≤ i) (h1 : i < n) (hn : n ≤ 50) : jE yJ3_checkIndex_8e157 cJ3_checkIndex_8e157 3 (some .int) rmL 1 ad [.int (Int32.ofInt i), .int (Int32.ofInt n), f] i := by
  have hi : i32 i := by unfold i32; omega
  have hn : i32 n := by unfold i32; omega
  refine jE_intro (by decide +kernel) (by simp [lg_sl, hf, show ∀ x, (Value.int x).category = 1 from fun _ => rfl]) (Or.inr ⟨rfl, hi, .int, rfl, rfl⟩) ?_
  intro p l e s m args below meth c D cA A Q G ρ μ φ ls C hM hml hP hD hl hR
  have hS : va_S A s.heap s.heap [] := va_S.rf
  have hl0 : ls[0]? = some (.val (.int (Int32.ofInt i))) := hl.2.2 (0, .int (Int32.ofInt i)) List.mem_cons_self
  have hl1 : ls[1]? = some (.val (.int (Int32.ofInt n))) := hl.2.2 (1, .int (Int32.ofInt n)) (List.mem_cons_of_mem _ List.mem_cons_self)
  refine lv_iload_n C.1 C.2.1 dJ3_checkIndex_8e157_0 rfl hl0 ?_
  refine lv_if_lt (tgt := 9) C.1 C.2.1 dJ3_checkIndex_8e157_1 (by decide) (fun hc => absurd ((q_lt hi i32_0).mp hc) (by omega)) (fun _ => ?_)
  refine lv_iload_n C.1 C.2.1 dJ3_checkIndex_8e157_4 rfl hl0 ?_
  refine lv_iload_n C.1 C.2.1 dJ3_checkIndex_8e157_5 rfl hl1 ?_
  refine lv_icmp_lt (tgt := 16) C.1 C.2.1 dJ3_checkIndex_8e157_6 (by decide) (fun _ => ?_) (fun hc => absurd ((q_lt hi hn).mpr h1) hc)
  refine lv_iload_n C.1 C.2.1 dJ3_checkIndex_8e157_16 rfl hl0 ?_
  exact hR φ _ _ _ _ (fun _ _ => rfl) hP hD hS dJ3_checkIndex_8e157_17
