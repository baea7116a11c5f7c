/-! ===== the abstract machine: a method at a place, with its locals, its stack, its memory ===== -/
abbrev MI : Type := MethodName × ByteArray × Nat × Nat × Room
def qret : Nat → Option FieldType
  | 0 => none
  | 1 => some .int
  | 2 => some .long
  | 4 => some (.array .int)
  | _ => some .boolean
def qws (M : MI) : List Cond := Cond.code M.1 M.2.1 M.2.2.1 (qret M.2.2.2.1) :: Wd
def retV (φ : Nat → Nat) : Nat → Int → List Value
  | 0, _ => []
  | 2, z => [.long (Int64.ofInt z)]
  | 4, z => [vlf φ (qP z.toNat)]
  | _, z => [.int (Int32.ofInt z)]
def retA : Nat → Int → List AV
  | 0, _ => []
  | 2, z => [qJ z]
  | 4, z => [qP z.toNat]
  | _, z => [qI z]
def retOk : Nat → Int → Prop
  | 0, z => z = 0
  | 1, z => i32 z
  | 2, z => i64 z
  | 4, z => 0 ≤ z ∧ z.toNat ≠ nid
  | _, z => z = 0 ∨ z = 1
def retI : Nat → Instr
  | 0 => .return_
  | 2 => .lreturn
  | 4 => .areturn
  | _ => .ireturn
def UNS : String := "jdk/internal/misc/Unsafe"
def ASU : String := "jdk/internal/util/ArraysSupport"
def NW (U : State) : Prop := ∀ q ∈ nwl, va_Nw (.methodLinkNest q.1 q.2.1 q.2.2.1 q.2.2.2) U
theorem NW.warm {s U : State} (hW : s.WarmedH U.vm) (h : NW s) : NW U := fun q hq => va_Nw.warmM hW (h q hq)
theorem NW.same {u U : State} (hv : u.vm = U.vm) (h : NW u) : NW U := fun q hq => va_Nw.same rfl hv (h q hq)
/-- what the start gives beside the tables' words: nest mates, the array of states, the script, the statics that an array comparison reads -/
def EN (ad : AdT) (A : Nat → Prop) (U : State) (H : Heap) : Prop :=
  NW U ∧ va_AO RX6 U ∧ va_X ad.2.1 ad.2.2.1 ad.2.2.2 U H ∧ ¬ A ad.2.1 ∧ va_Z UNS "ARRAY_INT_BASE_OFFSET" "I" (.int 16) A U H ∧ va_Z ASU "LOG2_ARRAY_INT_INDEX_SCALE" "I" (.int 2) A U H ∧ va_Z ASU "LOG2_ARRAY_LONG_INDEX_SCALE" "I" (.int 3) A U H ∧ va_Z ASU "U" "Ljdk/internal/misc/Unsafe;" (.ref ad.1) A U H ∧ va_O UNS ad.1 A U H
theorem EN.warm {ad : AdT} {A : Nat → Prop} {s U : State} {H : Heap} (hW : s.WarmedH U.vm) (h : EN ad A s H) : EN ad A U H :=
  ⟨h.1.warm hW, va_AO.moved hW.alike h.2.1, va_X.moved hW.alike h.2.2.1, h.2.2.2.1, va_Z.moved hW.alike h.2.2.2.2.1, va_Z.moved hW.alike h.2.2.2.2.2.1, va_Z.moved hW.alike h.2.2.2.2.2.2.1, va_Z.moved hW.alike h.2.2.2.2.2.2.2.1, va_O.moved hW.alike h.2.2.2.2.2.2.2.2⟩
theorem EN.same {ad : AdT} {A : Nat → Prop} {u U : State} {H : Heap} (hv : u.vm = U.vm) (h : EN ad A u H) : EN ad A U H := by
  have ha : u.vm.Alike U.vm := by rw [hv]; exact Vm.Alike.refl _
  exact ⟨h.1.same hv, va_AO.moved ha h.2.1, va_X.moved ha h.2.2.1, h.2.2.2.1, va_Z.moved ha h.2.2.2.2.1, va_Z.moved ha h.2.2.2.2.2.1, va_Z.moved ha h.2.2.2.2.2.2.1, va_Z.moved ha h.2.2.2.2.2.2.2.1, va_O.moved ha h.2.2.2.2.2.2.2.2⟩
theorem EN.kept {ad : AdT} {A : Nat → Prop} {U : State} {H H1 : Heap} (h : EN ad A U H) (hq : ∀ a : Nat, a < H.size → ¬ A a → H1[a]? = H[a]?) : EN ad A U H1 :=
  ⟨h.1, h.2.1, h.2.2.1.kept (hq _ (by obtain ⟨scr, h1, -⟩ := h.2.2.1; exact (Array.getElem?_eq_some_iff.mp h1).1) h.2.2.2.1), h.2.2.2.1, h.2.2.2.2.1.kept hq, h.2.2.2.2.2.1.kept hq, h.2.2.2.2.2.2.1.kept hq, h.2.2.2.2.2.2.2.1.kept hq, h.2.2.2.2.2.2.2.2.kept hq⟩
theorem EN.narrow {ad : AdT} {A B : Nat → Prop} {U : State} {H : Heap} (h : EN ad A U H) (hAB : ∀ q, B q → A q) : EN ad B U H :=
  ⟨h.1, h.2.1, h.2.2.1, fun hb => h.2.2.2.1 (hAB _ hb), h.2.2.2.2.1.narrow hAB, h.2.2.2.2.2.1.narrow hAB, h.2.2.2.2.2.2.1.narrow hAB, h.2.2.2.2.2.2.2.1.narrow hAB, h.2.2.2.2.2.2.2.2.narrow hAB⟩
def Cx (M : MI) (Fi : Gx → Int → Rf → Mem → Prop) (p : Program) (l : Launch) (e : Env) (s : State) (m : MethodId) (args : Array Value) (below : List Frame) (meth : Method) (c : Code) (D : va_G) (cA : Nat → ClassId) (ad : AdT) (A : Nat → Prop) (n0 : Nat) (φ0 : Nat → Nat) (Q : State → Prop) : Prop :=
  p.tables.exec = Jvm.exec ∧ c.code = M.2.1 ∧ c.maxLocals = M.2.2.1 ∧ s.vm.findClass M.1.cls = some m.cls ∧ (∀ w ∈ Wd, w.before args s = true) ∧ (EN ad A s s.heap ∧ φ0 sid = ad.2.1 ∧ φ0 uid = ad.1) ∧ va_K D vwCl (tysOf cA) s ∧ (∀ q : Nat, s.heap.size ≤ q → A q) ∧ (M.1.name = "<init>" → meth.name = "<init>") ∧
  ∀ (G : Gx) (φ : Nat → Nat) (ρ : Rf) (μ : Mem) (H : Heap) (locs : List Loc) (pc : Nat) (ls : Array Slot) (z : Int), Agr n0 φ φ0 → n0 ≤ G.2.length → MOk G ρ μ → va_P D vwCl (wsOf φ cA G.2 ρ μ) H → va_D A (wsOf φ cA G.2 ρ μ) → va_S A s.heap H locs → Fi G z ρ μ → retOk M.2.2.2.1 z → (M.2.2.2.1 = 4 → z.toNat < G.2.length) → decode M.2.1 pc = .ok (retI M.2.2.2.1, 1) →
    W p l e M.2.2.2.2 s m args below meth c H locs M.2.2.2.2.cells M.2.2.2.2.slots Q (F0 m pc ls (retV φ M.2.2.2.1 z))
def qXF (M : MI) (Fi : Gx → Int → Rf → Mem → Prop) (G : Gx) (kc : Nat × Nat) (pc : Nat) (lv : List (Option AV)) (st : List AV) (ρ : Rf) (μ : Mem) : Prop :=
  ∀ (p : Program) (l : Launch) (e : Env) (s : State) (m : MethodId) (args : Array Value) (below : List Frame) (meth : Method) (c : Code) (D : va_G) (cA : Nat → ClassId) (ad : AdT) (A : Nat → Prop) (n0 : Nat) (φ0 : Nat → Nat) (Q : State → Prop), Cx M Fi p l e s m args below meth c D cA ad A n0 φ0 Q →
  ∀ (φ : Nat → Nat) (H : Heap) (locs : List Loc) (ls : Array Slot), Agr n0 φ φ0 → n0 ≤ G.2.length → MOk G ρ μ → qlv φ ls M.2.2.1 lv → okL G.2.length lv → okS G.2.length st → va_P D vwCl (wsOf φ cA G.2 ρ μ) H → va_D A (wsOf φ cA G.2 ρ μ) → va_S A s.heap H locs →
    W p l e M.2.2.2.2 s m args below meth c H locs kc.1 kc.2 Q (F0 m pc ls (st.map (vlf φ)))
/-- ends in these cells, with this answer and this memory -/
abbrev qX (M : MI) (Gf : Gx) (Post : Int → Rf → Mem → Prop) : Gx → Nat × Nat → Nat → List (Option AV) → List AV → Rf → Mem → Prop := qXF M (fun G z ρ μ => G = Gf ∧ Post z ρ μ)
theorem okS_c {n : Nat} {v : AV} {st : List AV} (hv : avOk n v) (h : okS n st) : okS n (v :: st) := fun w hw => (List.mem_cons.mp hw).elim (fun e => e ▸ hv) (h w)
theorem okS_h {n : Nat} {v : AV} {st : List AV} (h : okS n (v :: st)) : avOk n v := h v List.mem_cons_self
theorem okS_t {n : Nat} {v : AV} {st : List AV} (h : okS n (v :: st)) : okS n st := fun w hw => h w (List.mem_cons_of_mem _ hw)
theorem okS_0 {n : Nat} : okS n [] := fun _ h => by cases h
section QROWS
variable {M : MI} {G : Gx} {Fi : Gx → Int → Rf → Mem → Prop} {kc : Nat × Nat} {pc : Nat} {lv : List (Option AV)} {st : List AV} {ρ : Rf} {μ : Mem}
theorem qX_mask (bs : List Bool) (h : qXF M Fi G kc pc (qmask bs lv) st ρ μ) : qXF M Fi G kc pc lv st ρ μ := by
  intro p l e s m args below meth c D cA ad A n0 φ0 Q C φ H locs ls hφ hn hM hl hkl hks hP hD hS
  exact h p l e s m args below meth c D cA ad A n0 φ0 Q C φ H locs ls hφ hn hM (qlv_mask bs hl) (okL_mask bs hkl) hks hP hD hS
theorem qX_iconst {n : Int} (hd : decode M.2.1 pc = .ok (.iconst n, 1)) (hr : i32 n) (h : qXF M Fi G kc (pc + 1) lv (qI n :: st) ρ μ) : qXF M Fi G kc pc lv st ρ μ := by
  intro p l e s m args below meth c D cA ad A n0 φ0 Q C φ H locs ls hφ hn hM hl hkl hks hP hD hS
  have h2 := h p l e s m args below meth c D cA ad A n0 φ0 Q C φ H locs ls hφ hn hM hl hkl (okS_c hr hks) hP hD hS
  exact lv_iconst C.1 C.2.1 hd rfl h2
theorem qX_bipush {n : Int} (hd : decode M.2.1 pc = .ok (.bipush n, 2)) (hr : i32 n) (hv : (Int8.ofInt n).toInt32 = Int32.ofInt n) (h : qXF M Fi G kc (pc + 2) lv (qI n :: st) ρ μ) : qXF M Fi G kc pc lv st ρ μ := by
  intro p l e s m args below meth c D cA ad A n0 φ0 Q C φ H locs ls hφ hn hM hl hkl hks hP hD hS
  have h2 := h p l e s m args below meth c D cA ad A n0 φ0 Q C φ H locs ls hφ hn hM hl hkl (okS_c hr hks) hP hD hS
  exact lv_bipush C.1 C.2.1 hd hv h2
theorem qX_sipush {n : Int} (hd : decode M.2.1 pc = .ok (.sipush n, 3)) (hr : i32 n) (hv : (Int16.ofInt n).toInt32 = Int32.ofInt n) (h : qXF M Fi G kc (pc + 3) lv (qI n :: st) ρ μ) : qXF M Fi G kc pc lv st ρ μ := by
  intro p l e s m args below meth c D cA ad A n0 φ0 Q C φ H locs ls hφ hn hM hl hkl hks hP hD hS
  have h2 := h p l e s m args below meth c D cA ad A n0 φ0 Q C φ H locs ls hφ hn hM hl hkl (okS_c hr hks) hP hD hS
  exact lv_sipush C.1 C.2.1 hd hv h2
theorem qX_ldc {n : Int} {ix : Nat} (hd : decode M.2.1 pc = .ok (.ldc ix, 2)) (hw : Cond.constant M.1.cls ix (Int32.ofInt n) ∈ Wd) (hr : i32 n) (h : qXF M Fi G kc (pc + 2) lv (qI n :: st) ρ μ) : qXF M Fi G kc pc lv st ρ μ := by
  intro p l e s m args below meth c D cA ad A n0 φ0 Q C φ H locs ls hφ hn hM hl hkl hks hP hD hS
  have h2 := h p l e s m args below meth c D cA ad A n0 φ0 Q C φ H locs ls hφ hn hM hl hkl (okS_c hr hks) hP hD hS
  exact lv_ldc C.1 C.2.1 C.2.2.2.1 (C.2.2.2.2.1 _ hw) hd h2
theorem qX_ldcw {n : Int} {ix : Nat} (hd : decode M.2.1 pc = .ok (.ldc_w ix, 3)) (hw : Cond.constant M.1.cls ix (Int32.ofInt n) ∈ Wd) (hr : i32 n) (h : qXF M Fi G kc (pc + 3) lv (qI n :: st) ρ μ) : qXF M Fi G kc pc lv st ρ μ := by
  intro p l e s m args below meth c D cA ad A n0 φ0 Q C φ H locs ls hφ hn hM hl hkl hks hP hD hS
  have h2 := h p l e s m args below meth c D cA ad A n0 φ0 Q C φ H locs ls hφ hn hM hl hkl (okS_c hr hks) hP hD hS
  exact lv_ldcw C.1 C.2.1 C.2.2.2.1 (C.2.2.2.2.1 _ hw) hd h2
theorem qX_ldc2 {n : Int} {ix : Nat} (hd : decode M.2.1 pc = .ok (.ldc2_w ix, 3)) (hw : Cond.constantLong M.1.cls ix (Int64.ofInt n) ∈ Wd) (hr : i64 n) (h : qXF M Fi G kc (pc + 3) lv (qJ n :: st) ρ μ) : qXF M Fi G kc pc lv st ρ μ := by
  intro p l e s m args below meth c D cA ad A n0 φ0 Q C φ H locs ls hφ hn hM hl hkl hks hP hD hS
  have h2 := h p l e s m args below meth c D cA ad A n0 φ0 Q C φ H locs ls hφ hn hM hl hkl (okS_c hr hks) hP hD hS
  exact lv_ldc2 C.1 C.2.1 C.2.2.2.1 (C.2.2.2.2.1 _ hw) hd h2
theorem qX_lconst {n : Fin 2} (z : Int) (hd : decode M.2.1 pc = .ok (.lconst n, 1)) (hv : Int64.ofNat (n : Nat) = Int64.ofInt z) (hr : i64 z) (h : qXF M Fi G kc (pc + 1) lv (qJ z :: st) ρ μ) : qXF M Fi G kc pc lv st ρ μ := by
  intro p l e s m args below meth c D cA ad A n0 φ0 Q C φ H locs ls hφ hn hM hl hkl hks hP hD hS
  have h2 := h p l e s m args below meth c D cA ad A n0 φ0 Q C φ H locs ls hφ hn hM hl hkl (okS_c hr hks) hP hD hS
  exact lv_lconst C.1 C.2.1 hd hv h2
theorem qX_iload_n {k : Fin 4} (i : Nat) {z : Int} (hd : decode M.2.1 pc = .ok (.iload_n k, 1)) (hi : (k : Nat) = i) (hv : lv[i]? = some (some (qI z))) (h : qXF M Fi G kc (pc + 1) lv (qI z :: st) ρ μ) : qXF M Fi G kc pc lv st ρ μ := by
  intro p l e s m args below meth c D cA ad A n0 φ0 Q C φ H locs ls hφ hn hM hl hkl hks hP hD hS
  have h2 := h p l e s m args below meth c D cA ad A n0 φ0 Q C φ H locs ls hφ hn hM hl hkl (okS_c (okL_at hkl hv) hks) hP hD hS
  exact lv_iload_n C.1 C.2.1 hd hi (qlv_at hl hv) h2
theorem qX_iload {i : Nat} {z : Int} (hd : decode M.2.1 pc = .ok (.iload i, 2)) (hv : lv[i]? = some (some (qI z))) (h : qXF M Fi G kc (pc + 2) lv (qI z :: st) ρ μ) : qXF M Fi G kc pc lv st ρ μ := by
  intro p l e s m args below meth c D cA ad A n0 φ0 Q C φ H locs ls hφ hn hM hl hkl hks hP hD hS
  have h2 := h p l e s m args below meth c D cA ad A n0 φ0 Q C φ H locs ls hφ hn hM hl hkl (okS_c (okL_at hkl hv) hks) hP hD hS
  exact lv_iload C.1 C.2.1 hd (qlv_at hl hv) h2
theorem qX_lload_n {k : Fin 4} (i : Nat) {z : Int} (hd : decode M.2.1 pc = .ok (.lload_n k, 1)) (hi : (k : Nat) = i) (hv : lv[i]? = some (some (qJ z))) (h : qXF M Fi G kc (pc + 1) lv (qJ z :: st) ρ μ) : qXF M Fi G kc pc lv st ρ μ := by
  intro p l e s m args below meth c D cA ad A n0 φ0 Q C φ H locs ls hφ hn hM hl hkl hks hP hD hS
  have h2 := h p l e s m args below meth c D cA ad A n0 φ0 Q C φ H locs ls hφ hn hM hl hkl (okS_c (okL_at hkl hv) hks) hP hD hS
  exact lv_lload_n C.1 C.2.1 hd hi (qlv_at hl hv) h2
theorem qX_lload {i : Nat} {z : Int} (hd : decode M.2.1 pc = .ok (.lload i, 2)) (hv : lv[i]? = some (some (qJ z))) (h : qXF M Fi G kc (pc + 2) lv (qJ z :: st) ρ μ) : qXF M Fi G kc pc lv st ρ μ := by
  intro p l e s m args below meth c D cA ad A n0 φ0 Q C φ H locs ls hφ hn hM hl hkl hks hP hD hS
  have h2 := h p l e s m args below meth c D cA ad A n0 φ0 Q C φ H locs ls hφ hn hM hl hkl (okS_c (okL_at hkl hv) hks) hP hD hS
  exact lv_lload C.1 C.2.1 hd (qlv_at hl hv) h2
theorem qX_aload_n {k : Fin 4} (i : Nat) {o : Nat} (hd : decode M.2.1 pc = .ok (.aload_n k, 1)) (hi : (k : Nat) = i) (hv : lv[i]? = some (some (qP o))) (hno : o ≠ nid) (h : qXF M Fi G kc (pc + 1) lv (qP o :: st) ρ μ) : qXF M Fi G kc pc lv st ρ μ := by
  intro p l e s m args below meth c D cA ad A n0 φ0 Q C φ H locs ls hφ hn hM hl hkl hks hP hD hS
  have h2 := h p l e s m args below meth c D cA ad A n0 φ0 Q C φ H locs ls hφ hn hM hl hkl (okS_c (okL_at hkl hv) hks) hP hD hS
  have e1 : vlf φ (qP o) = .ref (φ o) := vlf_nn hno
  have h3 := qlv_at hl hv
  rw [e1] at h3
  refine lv_aload_n C.1 C.2.1 hd hi h3 ?_
  rw [← e1]
  exact h2
theorem qX_aload {i : Nat} {o : Nat} (hd : decode M.2.1 pc = .ok (.aload i, 2)) (hv : lv[i]? = some (some (qP o))) (hno : o ≠ nid) (h : qXF M Fi G kc (pc + 2) lv (qP o :: st) ρ μ) : qXF M Fi G kc pc lv st ρ μ := by
  intro p l e s m args below meth c D cA ad A n0 φ0 Q C φ H locs ls hφ hn hM hl hkl hks hP hD hS
  have h2 := h p l e s m args below meth c D cA ad A n0 φ0 Q C φ H locs ls hφ hn hM hl hkl (okS_c (okL_at hkl hv) hks) hP hD hS
  have e1 : vlf φ (qP o) = .ref (φ o) := vlf_nn hno
  have h3 := qlv_at hl hv
  rw [e1] at h3
  refine lv_aload C.1 C.2.1 hd h3 ?_
  rw [← e1]
  exact h2
theorem qX_istore_n {k : Fin 4} (i : Nat) {z : Int} (hd : decode M.2.1 pc = .ok (.istore_n k, 1)) (hi : (k : Nat) = i) (hn1 : i < M.2.2.1) (hL : qnoL lv i = true) (h : qXF M Fi G kc (pc + 1) (lv.set i (some (qI z))) st ρ μ) : qXF M Fi G kc pc lv (qI z :: st) ρ μ := by
  intro p l e s m args below meth c D cA ad A n0 φ0 Q C φ H locs ls hφ hn hM hl hkl hks hP hD hS
  refine lv_istore_n C.1 C.2.1 hd hi hl hn1 rfl (fun ls2 hl2 => ?_)
  exact h p l e s m args below meth c D cA ad A n0 φ0 Q C φ H locs ls2 hφ hn hM (qlv_set rfl hL hl2) (okL_set hkl (okS_h hks)) (okS_t hks) hP hD hS
theorem qX_istore {i : Nat} {z : Int} (hd : decode M.2.1 pc = .ok (.istore i, 2)) (hn1 : i < M.2.2.1) (hL : qnoL lv i = true) (h : qXF M Fi G kc (pc + 2) (lv.set i (some (qI z))) st ρ μ) : qXF M Fi G kc pc lv (qI z :: st) ρ μ := by
  intro p l e s m args below meth c D cA ad A n0 φ0 Q C φ H locs ls hφ hn hM hl hkl hks hP hD hS
  refine lv_istore C.1 C.2.1 hd hl hn1 rfl (fun ls2 hl2 => ?_)
  exact h p l e s m args below meth c D cA ad A n0 φ0 Q C φ H locs ls2 hφ hn hM (qlv_set rfl hL hl2) (okL_set hkl (okS_h hks)) (okS_t hks) hP hD hS
theorem qX_astore_n {k : Fin 4} (i : Nat) {q : Nat} (hd : decode M.2.1 pc = .ok (.astore_n k, 1)) (hi : (k : Nat) = i) (hn1 : i < M.2.2.1) (hL : qnoL lv i = true) (hno : q ≠ nid) (h : qXF M Fi G kc (pc + 1) (lv.set i (some (qP q))) st ρ μ) : qXF M Fi G kc pc lv (qP q :: st) ρ μ := by
  intro p l e s m args below meth c D cA ad A n0 φ0 Q C φ H locs ls hφ hn hM hl hkl hks hP hD hS
  have e1 : vlf φ (qP q) = .ref (φ q) := vlf_nn hno
  show W _ _ _ _ _ _ _ _ _ _ _ _ _ _ _ (F0 m pc ls (vlf φ (qP q) :: st.map (vlf φ)))
  rw [e1]
  refine lv_astore_n C.1 C.2.1 hd hi hl hn1 rfl (fun ls2 hl2 => ?_)
  exact h p l e s m args below meth c D cA ad A n0 φ0 Q C φ H locs ls2 hφ hn hM (qlv_set e1 hL hl2) (okL_set hkl (okS_h hks)) (okS_t hks) hP hD hS
theorem qX_astore {i : Nat} {q : Nat} (hd : decode M.2.1 pc = .ok (.astore i, 2)) (hn1 : i < M.2.2.1) (hL : qnoL lv i = true) (hno : q ≠ nid) (h : qXF M Fi G kc (pc + 2) (lv.set i (some (qP q))) st ρ μ) : qXF M Fi G kc pc lv (qP q :: st) ρ μ := by
  intro p l e s m args below meth c D cA ad A n0 φ0 Q C φ H locs ls hφ hn hM hl hkl hks hP hD hS
  have e1 : vlf φ (qP q) = .ref (φ q) := vlf_nn hno
  show W _ _ _ _ _ _ _ _ _ _ _ _ _ _ _ (F0 m pc ls (vlf φ (qP q) :: st.map (vlf φ)))
  rw [e1]
  refine lv_astore C.1 C.2.1 hd hl hn1 rfl (fun ls2 hl2 => ?_)
  exact h p l e s m args below meth c D cA ad A n0 φ0 Q C φ H locs ls2 hφ hn hM (qlv_set e1 hL hl2) (okL_set hkl (okS_h hks)) (okS_t hks) hP hD hS
theorem qX_lstore {i : Nat} {z : Int} (hd : decode M.2.1 pc = .ok (.lstore i, 2)) (hn1 : i + 1 < M.2.2.1) (hL : qnoL lv i = true) (h : qXF M Fi G kc (pc + 2) ((lv.set i (some (qJ z))).set (i + 1) none) st ρ μ) : qXF M Fi G kc pc lv (qJ z :: st) ρ μ := by
  intro p l e s m args below meth c D cA ad A n0 φ0 Q C φ H locs ls hφ hn hM hl hkl hks hP hD hS
  refine lv_lstore C.1 C.2.1 hd hl hn1 rfl (fun ls2 hl2 => ?_)
  exact h p l e s m args below meth c D cA ad A n0 φ0 Q C φ H locs ls2 hφ hn hM (qlv_setL rfl hL hl2) (okL_setN (okL_set hkl (okS_h hks))) (okS_t hks) hP hD hS
theorem qX_lstore_n {k : Fin 4} (i : Nat) {z : Int} (hd : decode M.2.1 pc = .ok (.lstore_n k, 1)) (hi : (k : Nat) = i) (hn1 : i + 1 < M.2.2.1) (hL : qnoL lv i = true) (h : qXF M Fi G kc (pc + 1) ((lv.set i (some (qJ z))).set (i + 1) none) st ρ μ) : qXF M Fi G kc pc lv (qJ z :: st) ρ μ := by
  intro p l e s m args below meth c D cA ad A n0 φ0 Q C φ H locs ls hφ hn hM hl hkl hks hP hD hS
  refine lv_lstore_n C.1 C.2.1 hd hi hl hn1 rfl (fun ls2 hl2 => ?_)
  exact h p l e s m args below meth c D cA ad A n0 φ0 Q C φ H locs ls2 hφ hn hM (qlv_setL rfl hL hl2) (okL_setN (okL_set hkl (okS_h hks))) (okS_t hks) hP hD hS
theorem qpr_at {φ : Nat → Nat} {lv : List (Option AV)} {i : Nat} {v : AV} (h : lv[i]? = some (some v)) : ∃ k : Nat, (qpr φ lv)[k]? = some (i, vlf φ v) := List.getElem?_of_mem (qpr_mem.mpr ⟨v, h, rfl⟩)
theorem qX_iinc {i : Nat} {n z : Int} (hd : decode M.2.1 pc = .ok (.iinc i n, 3)) (hv : lv[i]? = some (some (qI z))) (hn1 : i < M.2.2.1) (hL : qnoL lv i = true) (h : qXF M Fi G kc (pc + 3) (lv.set i (some (qI (w32 (z + n))))) st ρ μ) : qXF M Fi G kc pc lv st ρ μ := by
  intro p l e s m args below meth c D cA ad A n0 φ0 Q C φ H locs ls hφ hn hM hl hkl hks hP hD hS
  obtain ⟨k, hk⟩ := qpr_at (φ := φ) hv
  refine lv_iinc (v := Int32.ofInt (w32 (z + n))) C.1 C.2.1 hd hl hk (by rw [← q_add]) hn1 rfl (fun ls2 hl2 => ?_)
  exact h p l e s m args below meth c D cA ad A n0 φ0 Q C φ H locs ls2 hφ hn hM (qlv_set rfl hL hl2) (okL_set hkl (i32_w32 _)) hks hP hD hS
theorem qX_iadd {a b : Int} (hd : decode M.2.1 pc = .ok (.iadd, 1)) (h : qXF M Fi G kc (pc + 1) lv (qI (w32 (a + b)) :: st) ρ μ) : qXF M Fi G kc pc lv (qI b :: qI a :: st) ρ μ := by
  intro p l e s m args below meth c D cA ad A n0 φ0 Q C φ H locs ls hφ hn hM hl hkl hks hP hD hS
  have h2 := h p l e s m args below meth c D cA ad A n0 φ0 Q C φ H locs ls hφ hn hM hl hkl (okS_c (i32_w32 _) (okS_t (okS_t hks))) hP hD hS
  exact lv_iadd C.1 C.2.1 hd (by rw [q_add]; exact h2)
theorem qX_isub {a b : Int} (hd : decode M.2.1 pc = .ok (.isub, 1)) (h : qXF M Fi G kc (pc + 1) lv (qI (w32 (a - b)) :: st) ρ μ) : qXF M Fi G kc pc lv (qI b :: qI a :: st) ρ μ := by
  intro p l e s m args below meth c D cA ad A n0 φ0 Q C φ H locs ls hφ hn hM hl hkl hks hP hD hS
  have h2 := h p l e s m args below meth c D cA ad A n0 φ0 Q C φ H locs ls hφ hn hM hl hkl (okS_c (i32_w32 _) (okS_t (okS_t hks))) hP hD hS
  exact lv_isub C.1 C.2.1 hd (by rw [q_sub]; exact h2)
theorem qX_imul {a b : Int} (hd : decode M.2.1 pc = .ok (.imul, 1)) (h : qXF M Fi G kc (pc + 1) lv (qI (w32 (a * b)) :: st) ρ μ) : qXF M Fi G kc pc lv (qI b :: qI a :: st) ρ μ := by
  intro p l e s m args below meth c D cA ad A n0 φ0 Q C φ H locs ls hφ hn hM hl hkl hks hP hD hS
  have h2 := h p l e s m args below meth c D cA ad A n0 φ0 Q C φ H locs ls hφ hn hM hl hkl (okS_c (i32_w32 _) (okS_t (okS_t hks))) hP hD hS
  exact lv_imul C.1 C.2.1 hd (by rw [q_mul]; exact h2)
theorem qX_idiv {a b : Int} (hd : decode M.2.1 pc = .ok (.idiv, 1)) (hb0 : b ≠ 0) (h : qXF M Fi G kc (pc + 1) lv (qI (w32 (a.tdiv b)) :: st) ρ μ) : qXF M Fi G kc pc lv (qI b :: qI a :: st) ρ μ := by
  intro p l e s m args below meth c D cA ad A n0 φ0 Q C φ H locs ls hφ hn hM hl hkl hks hP hD hS
  have hb1 : i32 b := okS_h hks
  have ha1 : i32 a := okS_h (okS_t hks)
  have h2 := h p l e s m args below meth c D cA ad A n0 φ0 Q C φ H locs ls hφ hn hM hl hkl (okS_c (i32_w32 _) (okS_t (okS_t hks))) hP hD hS
  exact lv_idiv C.1 C.2.1 hd (fun z => hb0 ((q_eq hb1 i32_0).mp z)) (by rw [q_div ha1 hb1]; exact h2)
theorem qX_irem {a b : Int} (hd : decode M.2.1 pc = .ok (.irem, 1)) (hb0 : b ≠ 0) (h : qXF M Fi G kc (pc + 1) lv (qI (w32 (a.tmod b)) :: st) ρ μ) : qXF M Fi G kc pc lv (qI b :: qI a :: st) ρ μ := by
  intro p l e s m args below meth c D cA ad A n0 φ0 Q C φ H locs ls hφ hn hM hl hkl hks hP hD hS
  have hb1 : i32 b := okS_h hks
  have ha1 : i32 a := okS_h (okS_t hks)
  have h2 := h p l e s m args below meth c D cA ad A n0 φ0 Q C φ H locs ls hφ hn hM hl hkl (okS_c (i32_w32 _) (okS_t (okS_t hks))) hP hD hS
  exact lv_irem C.1 C.2.1 hd (fun z => hb0 ((q_eq hb1 i32_0).mp z)) (by rw [q_rem ha1 hb1]; exact h2)
def and32 (a b : Int) : Int := (Int32.ofInt a &&& Int32.ofInt b).toInt
def xor32 (a b : Int) : Int := (Int32.ofInt a ^^^ Int32.ofInt b).toInt
def shl32 (a b : Int) : Int := (Int32.ofInt a <<< (Int32.ofInt b &&& 31)).toInt
def shr32 (a b : Int) : Int := (Int32.ofInt a >>> (Int32.ofInt b &&& 31)).toInt
def ushr32 (a b : Int) : Int := (((Int32.ofInt a).toUInt32 >>> ((Int32.ofInt b).toUInt32 &&& Int32.toUInt32 31)).toInt32).toInt
def i2b32 (a : Int) : Int := (Int32.ofInt a).toInt8.toInt32.toInt
def shl64 (a b : Int) : Int := (Int64.ofInt a <<< ((Int32.ofInt b).toInt64 &&& 63)).toInt
def or32 (a b : Int) : Int := (Int32.ofInt a ||| Int32.ofInt b).toInt
def and64 (a b : Int) : Int := (Int64.ofInt a &&& Int64.ofInt b).toInt
def shr64 (a b : Int) : Int := (Int64.ofInt a >>> ((Int32.ofInt b).toInt64 &&& 63)).toInt
def l2i (a : Int) : Int := (Int64.ofInt a).toInt32.toInt
def or64 (a b : Int) : Int := (Int64.ofInt a ||| Int64.ofInt b).toInt
def cmpL (a b : Int) : Int := if b < a then 1 else if a = b then 0 else -1
theorem oi32 (x : Int32) : Int32.ofInt x.toInt = x := Int32.ofInt_toInt x
theorem oi64 (x : Int64) : Int64.ofInt x.toInt = x := Int64.ofInt_toInt x
theorem cmpL_i32 (a b : Int) : i32 (cmpL a b) := by unfold cmpL i32; split; omega; split <;> omega
theorem cmpL_eq {a b : Int} (ha : i64 a) (hb : i64 b) : lg_cmp (Int64.ofInt a) (Int64.ofInt b) = Int32.ofInt (cmpL a b) := by
  unfold lg_cmp cmpL
  simp only [gt_iff_lt, q_ltL hb ha, q_eqL ha hb]
  split
  · rfl
  · split <;> rfl
theorem q_i2l {a : Int} (ha : i32 a) : (Int32.ofInt a).toInt64 = Int64.ofInt a := by
  apply Int64.toInt_inj.mp
  rw [Int32.toInt_toInt64, toInt_i32 ha, toInt_i64 (by unfold i32 at ha; unfold i64; omega)]

theorem qX_iand {a b : Int} (hd : decode M.2.1 pc = .ok (.iand, 1)) (h : qXF M Fi G kc (pc + 1) lv (qI (and32 a b) :: st) ρ μ) : qXF M Fi G kc pc lv (qI b :: qI a :: st) ρ μ := by
  intro p l e s m args below meth c D cA ad A n0 φ0 Q C φ H locs ls hφ hn hM hl hkl hks hP hD hS
  have h2 := h p l e s m args below meth c D cA ad A n0 φ0 Q C φ H locs ls hφ hn hM hl hkl (okS_c (i32_toInt _) (okS_t (okS_t hks))) hP hD hS
  have e := oi32 (Int32.ofInt a &&& Int32.ofInt b)
  exact lv_iand C.1 C.2.1 hd (by rw [← e]; exact h2)
theorem qX_ior {a b : Int} (hd : decode M.2.1 pc = .ok (.ior, 1)) (h : qXF M Fi G kc (pc + 1) lv (qI (or32 a b) :: st) ρ μ) : qXF M Fi G kc pc lv (qI b :: qI a :: st) ρ μ := by
  intro p l e s m args below meth c D cA ad A n0 φ0 Q C φ H locs ls hφ hn hM hl hkl hks hP hD hS
  have h2 := h p l e s m args below meth c D cA ad A n0 φ0 Q C φ H locs ls hφ hn hM hl hkl (okS_c (i32_toInt _) (okS_t (okS_t hks))) hP hD hS
  have e := oi32 (Int32.ofInt a ||| Int32.ofInt b)
  exact lv_ior C.1 C.2.1 hd (by rw [← e]; exact h2)
theorem qX_ixor {a b : Int} (hd : decode M.2.1 pc = .ok (.ixor, 1)) (h : qXF M Fi G kc (pc + 1) lv (qI (xor32 a b) :: st) ρ μ) : qXF M Fi G kc pc lv (qI b :: qI a :: st) ρ μ := by
  intro p l e s m args below meth c D cA ad A n0 φ0 Q C φ H locs ls hφ hn hM hl hkl hks hP hD hS
  have h2 := h p l e s m args below meth c D cA ad A n0 φ0 Q C φ H locs ls hφ hn hM hl hkl (okS_c (i32_toInt _) (okS_t (okS_t hks))) hP hD hS
  have e := oi32 (Int32.ofInt a ^^^ Int32.ofInt b)
  exact lv_ixor C.1 C.2.1 hd (by rw [← e]; exact h2)
theorem qX_ishl {a b : Int} (hd : decode M.2.1 pc = .ok (.ishl, 1)) (h : qXF M Fi G kc (pc + 1) lv (qI (shl32 a b) :: st) ρ μ) : qXF M Fi G kc pc lv (qI b :: qI a :: st) ρ μ := by
  intro p l e s m args below meth c D cA ad A n0 φ0 Q C φ H locs ls hφ hn hM hl hkl hks hP hD hS
  have h2 := h p l e s m args below meth c D cA ad A n0 φ0 Q C φ H locs ls hφ hn hM hl hkl (okS_c (i32_toInt _) (okS_t (okS_t hks))) hP hD hS
  have e := oi32 (Int32.ofInt a <<< (Int32.ofInt b &&& 31))
  exact lv_ishl C.1 C.2.1 hd (by rw [← e]; exact h2)
theorem qX_ishr {a b : Int} (hd : decode M.2.1 pc = .ok (.ishr, 1)) (h : qXF M Fi G kc (pc + 1) lv (qI (shr32 a b) :: st) ρ μ) : qXF M Fi G kc pc lv (qI b :: qI a :: st) ρ μ := by
  intro p l e s m args below meth c D cA ad A n0 φ0 Q C φ H locs ls hφ hn hM hl hkl hks hP hD hS
  have h2 := h p l e s m args below meth c D cA ad A n0 φ0 Q C φ H locs ls hφ hn hM hl hkl (okS_c (i32_toInt _) (okS_t (okS_t hks))) hP hD hS
  have e := oi32 (Int32.ofInt a >>> (Int32.ofInt b &&& 31))
  exact lv_ishr C.1 C.2.1 hd (by rw [← e]; exact h2)
theorem qX_iushr {a b : Int} (hd : decode M.2.1 pc = .ok (.iushr, 1)) (h : qXF M Fi G kc (pc + 1) lv (qI (ushr32 a b) :: st) ρ μ) : qXF M Fi G kc pc lv (qI b :: qI a :: st) ρ μ := by
  intro p l e s m args below meth c D cA ad A n0 φ0 Q C φ H locs ls hφ hn hM hl hkl hks hP hD hS
  have h2 := h p l e s m args below meth c D cA ad A n0 φ0 Q C φ H locs ls hφ hn hM hl hkl (okS_c (i32_toInt _) (okS_t (okS_t hks))) hP hD hS
  exact lv_iushr C.1 C.2.1 hd (oi32 _).symm h2
theorem qX_i2b {a : Int} (hd : decode M.2.1 pc = .ok (.i2b, 1)) (h : qXF M Fi G kc (pc + 1) lv (qI (i2b32 a) :: st) ρ μ) : qXF M Fi G kc pc lv (qI a :: st) ρ μ := by
  intro p l e s m args below meth c D cA ad A n0 φ0 Q C φ H locs ls hφ hn hM hl hkl hks hP hD hS
  have h2 := h p l e s m args below meth c D cA ad A n0 φ0 Q C φ H locs ls hφ hn hM hl hkl (okS_c (i32_toInt _) (okS_t hks)) hP hD hS
  exact lv_i2b C.1 C.2.1 hd (oi32 _).symm h2
theorem qX_i2l {a : Int} (hd : decode M.2.1 pc = .ok (.i2l, 1)) (h : qXF M Fi G kc (pc + 1) lv (qJ a :: st) ρ μ) : qXF M Fi G kc pc lv (qI a :: st) ρ μ := by
  intro p l e s m args below meth c D cA ad A n0 φ0 Q C φ H locs ls hφ hn hM hl hkl hks hP hD hS
  have ha : i32 a := okS_h hks
  have h2 := h p l e s m args below meth c D cA ad A n0 φ0 Q C φ H locs ls hφ hn hM hl hkl (okS_c (by unfold i32 at ha; show i64 a; unfold i64; omega) (okS_t hks)) hP hD hS
  exact lv_i2l C.1 C.2.1 hd (q_i2l ha) h2
theorem qX_ladd {a b : Int} (hd : decode M.2.1 pc = .ok (.ladd, 1)) (h : qXF M Fi G kc (pc + 1) lv (qJ (w64 (a + b)) :: st) ρ μ) : qXF M Fi G kc pc lv (qJ b :: qJ a :: st) ρ μ := by
  intro p l e s m args below meth c D cA ad A n0 φ0 Q C φ H locs ls hφ hn hM hl hkl hks hP hD hS
  have h2 := h p l e s m args below meth c D cA ad A n0 φ0 Q C φ H locs ls hφ hn hM hl hkl (okS_c (i64_w64 _) (okS_t (okS_t hks))) hP hD hS
  exact lv_ladd C.1 C.2.1 hd (by rw [q_addL]; exact h2)
theorem qX_lsub {a b : Int} (hd : decode M.2.1 pc = .ok (.lsub, 1)) (h : qXF M Fi G kc (pc + 1) lv (qJ (w64 (a - b)) :: st) ρ μ) : qXF M Fi G kc pc lv (qJ b :: qJ a :: st) ρ μ := by
  intro p l e s m args below meth c D cA ad A n0 φ0 Q C φ H locs ls hφ hn hM hl hkl hks hP hD hS
  have h2 := h p l e s m args below meth c D cA ad A n0 φ0 Q C φ H locs ls hφ hn hM hl hkl (okS_c (i64_w64 _) (okS_t (okS_t hks))) hP hD hS
  exact lv_lsub C.1 C.2.1 hd (by rw [q_subL]; exact h2)
theorem qX_lmul {a b : Int} (hd : decode M.2.1 pc = .ok (.lmul, 1)) (h : qXF M Fi G kc (pc + 1) lv (qJ (w64 (a * b)) :: st) ρ μ) : qXF M Fi G kc pc lv (qJ b :: qJ a :: st) ρ μ := by
  intro p l e s m args below meth c D cA ad A n0 φ0 Q C φ H locs ls hφ hn hM hl hkl hks hP hD hS
  have h2 := h p l e s m args below meth c D cA ad A n0 φ0 Q C φ H locs ls hφ hn hM hl hkl (okS_c (i64_w64 _) (okS_t (okS_t hks))) hP hD hS
  exact lv_lmul C.1 C.2.1 hd (by rw [q_mulL]; exact h2)
theorem qX_lor {a b : Int} (hd : decode M.2.1 pc = .ok (.lor, 1)) (h : qXF M Fi G kc (pc + 1) lv (qJ (or64 a b) :: st) ρ μ) : qXF M Fi G kc pc lv (qJ b :: qJ a :: st) ρ μ := by
  intro p l e s m args below meth c D cA ad A n0 φ0 Q C φ H locs ls hφ hn hM hl hkl hks hP hD hS
  have h2 := h p l e s m args below meth c D cA ad A n0 φ0 Q C φ H locs ls hφ hn hM hl hkl (okS_c (i64_toInt _) (okS_t (okS_t hks))) hP hD hS
  exact lv_lor C.1 C.2.1 hd (by have e := oi64 (Int64.ofInt a ||| Int64.ofInt b); rw [← e]; exact h2)
theorem qX_land {a b : Int} (hd : decode M.2.1 pc = .ok (.land, 1)) (h : qXF M Fi G kc (pc + 1) lv (qJ (and64 a b) :: st) ρ μ) : qXF M Fi G kc pc lv (qJ b :: qJ a :: st) ρ μ := by
  intro p l e s m args below meth c D cA ad A n0 φ0 Q C φ H locs ls hφ hn hM hl hkl hks hP hD hS
  have h2 := h p l e s m args below meth c D cA ad A n0 φ0 Q C φ H locs ls hφ hn hM hl hkl (okS_c (i64_toInt _) (okS_t (okS_t hks))) hP hD hS
  exact lv_land C.1 C.2.1 hd (by have e := oi64 (Int64.ofInt a &&& Int64.ofInt b); rw [← e]; exact h2)
theorem qX_lshr {a b : Int} (hd : decode M.2.1 pc = .ok (.lshr, 1)) (h : qXF M Fi G kc (pc + 1) lv (qJ (shr64 a b) :: st) ρ μ) : qXF M Fi G kc pc lv (qI b :: qJ a :: st) ρ μ := by
  intro p l e s m args below meth c D cA ad A n0 φ0 Q C φ H locs ls hφ hn hM hl hkl hks hP hD hS
  have h2 := h p l e s m args below meth c D cA ad A n0 φ0 Q C φ H locs ls hφ hn hM hl hkl (okS_c (i64_toInt _) (okS_t (okS_t hks))) hP hD hS
  exact lv_lshr C.1 C.2.1 hd (oi64 _).symm h2
theorem qX_l2i {a : Int} (hd : decode M.2.1 pc = .ok (.l2i, 1)) (h : qXF M Fi G kc (pc + 1) lv (qI (l2i a) :: st) ρ μ) : qXF M Fi G kc pc lv (qJ a :: st) ρ μ := by
  intro p l e s m args below meth c D cA ad A n0 φ0 Q C φ H locs ls hφ hn hM hl hkl hks hP hD hS
  have h2 := h p l e s m args below meth c D cA ad A n0 φ0 Q C φ H locs ls hφ hn hM hl hkl (okS_c (i32_toInt _) (okS_t hks)) hP hD hS
  exact lv_l2i C.1 C.2.1 hd (oi32 _).symm h2
theorem qX_lshl {a b : Int} (hd : decode M.2.1 pc = .ok (.lshl, 1)) (h : qXF M Fi G kc (pc + 1) lv (qJ (shl64 a b) :: st) ρ μ) : qXF M Fi G kc pc lv (qI b :: qJ a :: st) ρ μ := by
  intro p l e s m args below meth c D cA ad A n0 φ0 Q C φ H locs ls hφ hn hM hl hkl hks hP hD hS
  have h2 := h p l e s m args below meth c D cA ad A n0 φ0 Q C φ H locs ls hφ hn hM hl hkl (okS_c (i64_toInt _) (okS_t (okS_t hks))) hP hD hS
  exact lv_lshl C.1 C.2.1 hd (oi64 _).symm h2
theorem qX_lcmp {a b : Int} (hd : decode M.2.1 pc = .ok (.lcmp, 1)) (h : qXF M Fi G kc (pc + 1) lv (qI (cmpL a b) :: st) ρ μ) : qXF M Fi G kc pc lv (qJ b :: qJ a :: st) ρ μ := by
  intro p l e s m args below meth c D cA ad A n0 φ0 Q C φ H locs ls hφ hn hM hl hkl hks hP hD hS
  have hb1 : i64 b := okS_h hks
  have ha1 : i64 a := okS_h (okS_t hks)
  have h2 := h p l e s m args below meth c D cA ad A n0 φ0 Q C φ H locs ls hφ hn hM hl hkl (okS_c (cmpL_i32 _ _) (okS_t (okS_t hks))) hP hD hS
  exact W.lcmp C.1 C.2.1 hd (by rw [cmpL_eq ha1 hb1]; exact h2)
def cat1 : AV → Bool
  | .inr (.inl _) => false
  | _ => true
theorem cat1_v {φ : Nat → Nat} {v : AV} (h : cat1 v = true) : (vlf φ v).category = 1 := by
  rcases v with z | z | i
  · rfl
  · cases h
  · show (va_rf (rlf φ i)).category = 1
    cases rlf φ i <;> rfl
theorem qX_dup {v : AV} (hd : decode M.2.1 pc = .ok (.dup, 1)) (hc : cat1 v = true) (h : qXF M Fi G kc (pc + 1) lv (v :: v :: st) ρ μ) : qXF M Fi G kc pc lv (v :: st) ρ μ := by
  intro p l e s m args below meth c D cA ad A n0 φ0 Q C φ H locs ls hφ hn hM hl hkl hks hP hD hS
  have h2 := h p l e s m args below meth c D cA ad A n0 φ0 Q C φ H locs ls hφ hn hM hl hkl (okS_c (okS_h hks) hks) hP hD hS
  exact lv_dup C.1 C.2.1 hd (cat1_v hc) h2
theorem qX_dup2 {v w : AV} (hd : decode M.2.1 pc = .ok (.dup2, 1)) (hc : cat1 v = true) (hc2 : cat1 w = true) (h : qXF M Fi G kc (pc + 1) lv (v :: w :: v :: w :: st) ρ μ) : qXF M Fi G kc pc lv (v :: w :: st) ρ μ := by
  intro p l e s m args below meth c D cA ad A n0 φ0 Q C φ H locs ls hφ hn hM hl hkl hks hP hD hS
  have h2 := h p l e s m args below meth c D cA ad A n0 φ0 Q C φ H locs ls hφ hn hM hl hkl (okS_c (okS_h hks) (okS_c (okS_h (okS_t hks)) hks)) hP hD hS
  exact lv_dup2_11 C.1 C.2.1 hd (cat1_v hc) (cat1_v hc2) h2
theorem qX_icmp_eq {a b : Int} {off : Int} (tgt : Nat) (hd : decode M.2.1 pc = .ok (.if_icmp .eq off, 3)) (ht : (pc : Int) + off = (tgt : Int)) (kt : a = b → qXF M Fi G kc tgt lv st ρ μ) (kf : a ≠ b → qXF M Fi G kc (pc + 3) lv st ρ μ) : qXF M Fi G kc pc lv (qI b :: qI a :: st) ρ μ := by
  intro p l e s m args below meth c D cA ad A n0 φ0 Q C φ H locs ls hφ hn hM hl hkl hks hP hD hS
  have hb1 : i32 b := okS_h hks
  have ha : i32 a := okS_h (okS_t hks)
  exact lv_icmp_eq C.1 C.2.1 hd ht (fun z => kt ((q_eq ha hb1).mp z) p l e s m args below meth c D cA ad A n0 φ0 Q C φ H locs ls hφ hn hM hl hkl (okS_t (okS_t hks)) hP hD hS) (fun z => kf (fun y => z ((q_eq ha hb1).mpr y)) p l e s m args below meth c D cA ad A n0 φ0 Q C φ H locs ls hφ hn hM hl hkl (okS_t (okS_t hks)) hP hD hS)
theorem qX_if_eq {a : Int} {off : Int} (tgt : Nat) (hd : decode M.2.1 pc = .ok (.ifCond .eq off, 3)) (ht : (pc : Int) + off = (tgt : Int)) (kt : a = 0 → qXF M Fi G kc tgt lv st ρ μ) (kf : a ≠ 0 → qXF M Fi G kc (pc + 3) lv st ρ μ) : qXF M Fi G kc pc lv (qI a :: st) ρ μ := by
  intro p l e s m args below meth c D cA ad A n0 φ0 Q C φ H locs ls hφ hn hM hl hkl hks hP hD hS
  have hb1 : i32 0 := i32_0
  have ha : i32 a := okS_h hks
  exact lv_if_eq C.1 C.2.1 hd ht (fun z => kt ((q_eq ha hb1).mp z) p l e s m args below meth c D cA ad A n0 φ0 Q C φ H locs ls hφ hn hM hl hkl (okS_t hks) hP hD hS) (fun z => kf (fun y => z ((q_eq ha hb1).mpr y)) p l e s m args below meth c D cA ad A n0 φ0 Q C φ H locs ls hφ hn hM hl hkl (okS_t hks) hP hD hS)
theorem qX_icmp_ne {a b : Int} {off : Int} (tgt : Nat) (hd : decode M.2.1 pc = .ok (.if_icmp .ne off, 3)) (ht : (pc : Int) + off = (tgt : Int)) (kt : a ≠ b → qXF M Fi G kc tgt lv st ρ μ) (kf : a = b → qXF M Fi G kc (pc + 3) lv st ρ μ) : qXF M Fi G kc pc lv (qI b :: qI a :: st) ρ μ := by
  intro p l e s m args below meth c D cA ad A n0 φ0 Q C φ H locs ls hφ hn hM hl hkl hks hP hD hS
  have hb1 : i32 b := okS_h hks
  have ha : i32 a := okS_h (okS_t hks)
  exact lv_icmp_ne C.1 C.2.1 hd ht (fun z => kt (fun y => z ((q_eq ha hb1).mpr y)) p l e s m args below meth c D cA ad A n0 φ0 Q C φ H locs ls hφ hn hM hl hkl (okS_t (okS_t hks)) hP hD hS) (fun z => kf ((q_eq ha hb1).mp z) p l e s m args below meth c D cA ad A n0 φ0 Q C φ H locs ls hφ hn hM hl hkl (okS_t (okS_t hks)) hP hD hS)
theorem qX_if_ne {a : Int} {off : Int} (tgt : Nat) (hd : decode M.2.1 pc = .ok (.ifCond .ne off, 3)) (ht : (pc : Int) + off = (tgt : Int)) (kt : a ≠ 0 → qXF M Fi G kc tgt lv st ρ μ) (kf : a = 0 → qXF M Fi G kc (pc + 3) lv st ρ μ) : qXF M Fi G kc pc lv (qI a :: st) ρ μ := by
  intro p l e s m args below meth c D cA ad A n0 φ0 Q C φ H locs ls hφ hn hM hl hkl hks hP hD hS
  have hb1 : i32 0 := i32_0
  have ha : i32 a := okS_h hks
  exact lv_if_ne C.1 C.2.1 hd ht (fun z => kt (fun y => z ((q_eq ha hb1).mpr y)) p l e s m args below meth c D cA ad A n0 φ0 Q C φ H locs ls hφ hn hM hl hkl (okS_t hks) hP hD hS) (fun z => kf ((q_eq ha hb1).mp z) p l e s m args below meth c D cA ad A n0 φ0 Q C φ H locs ls hφ hn hM hl hkl (okS_t hks) hP hD hS)
theorem qX_icmp_lt {a b : Int} {off : Int} (tgt : Nat) (hd : decode M.2.1 pc = .ok (.if_icmp .lt off, 3)) (ht : (pc : Int) + off = (tgt : Int)) (kt : a < b → qXF M Fi G kc tgt lv st ρ μ) (kf : b ≤ a → qXF M Fi G kc (pc + 3) lv st ρ μ) : qXF M Fi G kc pc lv (qI b :: qI a :: st) ρ μ := by
  intro p l e s m args below meth c D cA ad A n0 φ0 Q C φ H locs ls hφ hn hM hl hkl hks hP hD hS
  have hb1 : i32 b := okS_h hks
  have ha : i32 a := okS_h (okS_t hks)
  exact lv_icmp_lt C.1 C.2.1 hd ht (fun z => kt ((q_lt ha hb1).mp z) p l e s m args below meth c D cA ad A n0 φ0 Q C φ H locs ls hφ hn hM hl hkl (okS_t (okS_t hks)) hP hD hS) (fun z => kf (Int.not_lt.mp (fun y => z ((q_lt ha hb1).mpr y))) p l e s m args below meth c D cA ad A n0 φ0 Q C φ H locs ls hφ hn hM hl hkl (okS_t (okS_t hks)) hP hD hS)
theorem qX_if_lt {a : Int} {off : Int} (tgt : Nat) (hd : decode M.2.1 pc = .ok (.ifCond .lt off, 3)) (ht : (pc : Int) + off = (tgt : Int)) (kt : a < 0 → qXF M Fi G kc tgt lv st ρ μ) (kf : 0 ≤ a → qXF M Fi G kc (pc + 3) lv st ρ μ) : qXF M Fi G kc pc lv (qI a :: st) ρ μ := by
  intro p l e s m args below meth c D cA ad A n0 φ0 Q C φ H locs ls hφ hn hM hl hkl hks hP hD hS
  have hb1 : i32 0 := i32_0
  have ha : i32 a := okS_h hks
  exact lv_if_lt C.1 C.2.1 hd ht (fun z => kt ((q_lt ha hb1).mp z) p l e s m args below meth c D cA ad A n0 φ0 Q C φ H locs ls hφ hn hM hl hkl (okS_t hks) hP hD hS) (fun z => kf (Int.not_lt.mp (fun y => z ((q_lt ha hb1).mpr y))) p l e s m args below meth c D cA ad A n0 φ0 Q C φ H locs ls hφ hn hM hl hkl (okS_t hks) hP hD hS)
theorem qX_icmp_ge {a b : Int} {off : Int} (tgt : Nat) (hd : decode M.2.1 pc = .ok (.if_icmp .ge off, 3)) (ht : (pc : Int) + off = (tgt : Int)) (kt : b ≤ a → qXF M Fi G kc tgt lv st ρ μ) (kf : a < b → qXF M Fi G kc (pc + 3) lv st ρ μ) : qXF M Fi G kc pc lv (qI b :: qI a :: st) ρ μ := by
  intro p l e s m args below meth c D cA ad A n0 φ0 Q C φ H locs ls hφ hn hM hl hkl hks hP hD hS
  have hb1 : i32 b := okS_h hks
  have ha : i32 a := okS_h (okS_t hks)
  exact lv_icmp_ge C.1 C.2.1 hd ht (fun z => kt ((q_le hb1 ha).mp z) p l e s m args below meth c D cA ad A n0 φ0 Q C φ H locs ls hφ hn hM hl hkl (okS_t (okS_t hks)) hP hD hS) (fun z => kf (Int.not_le.mp (fun y => z ((q_le hb1 ha).mpr y))) p l e s m args below meth c D cA ad A n0 φ0 Q C φ H locs ls hφ hn hM hl hkl (okS_t (okS_t hks)) hP hD hS)
theorem qX_if_ge {a : Int} {off : Int} (tgt : Nat) (hd : decode M.2.1 pc = .ok (.ifCond .ge off, 3)) (ht : (pc : Int) + off = (tgt : Int)) (kt : 0 ≤ a → qXF M Fi G kc tgt lv st ρ μ) (kf : a < 0 → qXF M Fi G kc (pc + 3) lv st ρ μ) : qXF M Fi G kc pc lv (qI a :: st) ρ μ := by
  intro p l e s m args below meth c D cA ad A n0 φ0 Q C φ H locs ls hφ hn hM hl hkl hks hP hD hS
  have hb1 : i32 0 := i32_0
  have ha : i32 a := okS_h hks
  exact lv_if_ge C.1 C.2.1 hd ht (fun z => kt ((q_le hb1 ha).mp z) p l e s m args below meth c D cA ad A n0 φ0 Q C φ H locs ls hφ hn hM hl hkl (okS_t hks) hP hD hS) (fun z => kf (Int.not_le.mp (fun y => z ((q_le hb1 ha).mpr y))) p l e s m args below meth c D cA ad A n0 φ0 Q C φ H locs ls hφ hn hM hl hkl (okS_t hks) hP hD hS)
theorem qX_icmp_gt {a b : Int} {off : Int} (tgt : Nat) (hd : decode M.2.1 pc = .ok (.if_icmp .gt off, 3)) (ht : (pc : Int) + off = (tgt : Int)) (kt : b < a → qXF M Fi G kc tgt lv st ρ μ) (kf : a ≤ b → qXF M Fi G kc (pc + 3) lv st ρ μ) : qXF M Fi G kc pc lv (qI b :: qI a :: st) ρ μ := by
  intro p l e s m args below meth c D cA ad A n0 φ0 Q C φ H locs ls hφ hn hM hl hkl hks hP hD hS
  have hb1 : i32 b := okS_h hks
  have ha : i32 a := okS_h (okS_t hks)
  exact lv_icmp_gt C.1 C.2.1 hd ht (fun z => kt ((q_lt hb1 ha).mp z) p l e s m args below meth c D cA ad A n0 φ0 Q C φ H locs ls hφ hn hM hl hkl (okS_t (okS_t hks)) hP hD hS) (fun z => kf (Int.not_lt.mp (fun y => z ((q_lt hb1 ha).mpr y))) p l e s m args below meth c D cA ad A n0 φ0 Q C φ H locs ls hφ hn hM hl hkl (okS_t (okS_t hks)) hP hD hS)
theorem qX_if_gt {a : Int} {off : Int} (tgt : Nat) (hd : decode M.2.1 pc = .ok (.ifCond .gt off, 3)) (ht : (pc : Int) + off = (tgt : Int)) (kt : 0 < a → qXF M Fi G kc tgt lv st ρ μ) (kf : a ≤ 0 → qXF M Fi G kc (pc + 3) lv st ρ μ) : qXF M Fi G kc pc lv (qI a :: st) ρ μ := by
  intro p l e s m args below meth c D cA ad A n0 φ0 Q C φ H locs ls hφ hn hM hl hkl hks hP hD hS
  have hb1 : i32 0 := i32_0
  have ha : i32 a := okS_h hks
  exact lv_if_gt C.1 C.2.1 hd ht (fun z => kt ((q_lt hb1 ha).mp z) p l e s m args below meth c D cA ad A n0 φ0 Q C φ H locs ls hφ hn hM hl hkl (okS_t hks) hP hD hS) (fun z => kf (Int.not_lt.mp (fun y => z ((q_lt hb1 ha).mpr y))) p l e s m args below meth c D cA ad A n0 φ0 Q C φ H locs ls hφ hn hM hl hkl (okS_t hks) hP hD hS)
theorem qX_icmp_le {a b : Int} {off : Int} (tgt : Nat) (hd : decode M.2.1 pc = .ok (.if_icmp .le off, 3)) (ht : (pc : Int) + off = (tgt : Int)) (kt : a ≤ b → qXF M Fi G kc tgt lv st ρ μ) (kf : b < a → qXF M Fi G kc (pc + 3) lv st ρ μ) : qXF M Fi G kc pc lv (qI b :: qI a :: st) ρ μ := by
  intro p l e s m args below meth c D cA ad A n0 φ0 Q C φ H locs ls hφ hn hM hl hkl hks hP hD hS
  have hb1 : i32 b := okS_h hks
  have ha : i32 a := okS_h (okS_t hks)
  exact lv_icmp_le C.1 C.2.1 hd ht (fun z => kt ((q_le ha hb1).mp z) p l e s m args below meth c D cA ad A n0 φ0 Q C φ H locs ls hφ hn hM hl hkl (okS_t (okS_t hks)) hP hD hS) (fun z => kf (Int.not_le.mp (fun y => z ((q_le ha hb1).mpr y))) p l e s m args below meth c D cA ad A n0 φ0 Q C φ H locs ls hφ hn hM hl hkl (okS_t (okS_t hks)) hP hD hS)
theorem qX_if_le {a : Int} {off : Int} (tgt : Nat) (hd : decode M.2.1 pc = .ok (.ifCond .le off, 3)) (ht : (pc : Int) + off = (tgt : Int)) (kt : a ≤ 0 → qXF M Fi G kc tgt lv st ρ μ) (kf : 0 < a → qXF M Fi G kc (pc + 3) lv st ρ μ) : qXF M Fi G kc pc lv (qI a :: st) ρ μ := by
  intro p l e s m args below meth c D cA ad A n0 φ0 Q C φ H locs ls hφ hn hM hl hkl hks hP hD hS
  have hb1 : i32 0 := i32_0
  have ha : i32 a := okS_h hks
  exact lv_if_le C.1 C.2.1 hd ht (fun z => kt ((q_le ha hb1).mp z) p l e s m args below meth c D cA ad A n0 φ0 Q C φ H locs ls hφ hn hM hl hkl (okS_t hks) hP hD hS) (fun z => kf (Int.not_le.mp (fun y => z ((q_le ha hb1).mpr y))) p l e s m args below meth c D cA ad A n0 φ0 Q C φ H locs ls hφ hn hM hl hkl (okS_t hks) hP hD hS)
theorem qX_goto {off : Int} (tgt : Nat) (hd : decode M.2.1 pc = .ok (.goto off, 3)) (ht : (pc : Int) + off = (tgt : Int)) (h : qXF M Fi G kc tgt lv st ρ μ) : qXF M Fi G kc pc lv st ρ μ := by
  intro p l e s m args below meth c D cA ad A n0 φ0 Q C φ H locs ls hφ hn hM hl hkl hks hP hD hS
  have h2 := h p l e s m args below meth c D cA ad A n0 φ0 Q C φ H locs ls hφ hn hM hl hkl (hks) hP hD hS
  exact lv_goto C.1 C.2.1 hd ht h2
theorem qX_tsw {dflt lo hi : Int} {offs : Array Int} {len : Nat} {a : Int} (tgt : Nat) (hd : decode M.2.1 pc = .ok (.tableswitch dflt lo hi offs, len)) (hi1 : lo ≤ a) (hi2 : a ≤ hi) {off : Int} (ho : offs[(a - lo).toNat]? = some off) (ht : (pc : Int) + off = (tgt : Int)) (h : qXF M Fi G kc tgt lv st ρ μ) : qXF M Fi G kc pc lv (qI a :: st) ρ μ := by
  intro p l e s m args below meth c D cA ad A n0 φ0 Q C φ H locs ls hφ hn hM hl hkl hks hP hD hS
  have ha : i32 a := okS_h hks
  have h2 := h p l e s m args below meth c D cA ad A n0 φ0 Q C φ H locs ls hφ hn hM hl hkl (okS_t hks) hP hD hS
  exact lv_tableIn C.1 C.2.1 hd (by rw [toInt_i32 ha]; omega) (by rw [toInt_i32 ha]; omega) (by rw [toInt_i32 ha]; exact ho) ht h2
theorem qX_tswd {dflt lo hi : Int} {offs : Array Int} {len : Nat} {a : Int} (tgt : Nat) (hd : decode M.2.1 pc = .ok (.tableswitch dflt lo hi offs, len)) (hi1 : a < lo ∨ hi < a) (ht : (pc : Int) + dflt = (tgt : Int)) (h : qXF M Fi G kc tgt lv st ρ μ) : qXF M Fi G kc pc lv (qI a :: st) ρ μ := by
  intro p l e s m args below meth c D cA ad A n0 φ0 Q C φ H locs ls hφ hn hM hl hkl hks hP hD hS
  have ha : i32 a := okS_h hks
  have h2 := h p l e s m args below meth c D cA ad A n0 φ0 Q C φ H locs ls hφ hn hM hl hkl (okS_t hks) hP hD hS
  exact lv_tableOut C.1 C.2.1 hd (by rw [toInt_i32 ha]; exact hi1) ht h2
theorem qXF_ret {z : Int} (hd : decode M.2.1 pc = .ok (retI M.2.2.2.1, 1)) (hst : st = retA M.2.2.2.1 z) (hz : retOk M.2.2.2.1 z) (hz4 : M.2.2.2.1 = 4 → z.toNat < G.2.length) (hc : kc.1 ≤ M.2.2.2.2.cells ∧ kc.2 ≤ M.2.2.2.2.slots) (h : Fi G z ρ μ) : qXF M Fi G kc pc lv st ρ μ := by
  intro p l e s m args below meth c D cA ad A n0 φ0 Q C φ H locs ls hφ hn hM hl hkl hks hP hD hS
  have h2 := C.2.2.2.2.2.2.2.2.2 G φ ρ μ H locs pc ls z hφ hn hM hP hD hS h hz hz4 hd
  have e1 : st.map (vlf φ) = retV φ M.2.2.2.1 z := by
    rw [hst]
    generalize M.2.2.2.1 = k
    rcases k with _ | _ | _ | _ | _ | k <;> rfl
  rw [e1]
  exact W.widen hc.1 hc.2 h2
theorem qXF_ireturn {z : Int} (hk : M.2.2.2.1 = 1) (hd : decode M.2.1 pc = .ok (.ireturn, 1)) (hc : kc.1 ≤ M.2.2.2.2.cells ∧ kc.2 ≤ M.2.2.2.2.slots) (h : Fi G z ρ μ) : qXF M Fi G kc pc lv (qI z :: []) ρ μ := by
  intro p l e s m args below meth c D cA ad A n0 φ0 Q C φ H locs ls hφ hn hM hl hkl hks hP hD hS
  have hz : i32 z := okS_h hks
  exact qXF_ret (z := z) (by rw [hk]; exact hd) (by rw [hk]; rfl) (by rw [hk]; exact hz) (fun e => by rw [hk] at e; cases e) hc h p l e s m args below meth c D cA ad A n0 φ0 Q C φ H locs ls hφ hn hM hl hkl hks hP hD hS
theorem qXF_lreturn {z : Int} (hk : M.2.2.2.1 = 2) (hd : decode M.2.1 pc = .ok (.lreturn, 1)) (hc : kc.1 ≤ M.2.2.2.2.cells ∧ kc.2 ≤ M.2.2.2.2.slots) (h : Fi G z ρ μ) : qXF M Fi G kc pc lv (qJ z :: []) ρ μ := by
  intro p l e s m args below meth c D cA ad A n0 φ0 Q C φ H locs ls hφ hn hM hl hkl hks hP hD hS
  have hz : i64 z := okS_h hks
  exact qXF_ret (z := z) (by rw [hk]; exact hd) (by rw [hk]; rfl) (by rw [hk]; exact hz) (fun e => by rw [hk] at e; cases e) hc h p l e s m args below meth c D cA ad A n0 φ0 Q C φ H locs ls hφ hn hM hl hkl hks hP hD hS
theorem qXF_zreturn {z : Int} (hk : M.2.2.2.1 = 3) (hd : decode M.2.1 pc = .ok (.ireturn, 1)) (hc : kc.1 ≤ M.2.2.2.2.cells ∧ kc.2 ≤ M.2.2.2.2.slots) (hz : z = 0 ∨ z = 1) (h : Fi G z ρ μ) : qXF M Fi G kc pc lv (qI z :: []) ρ μ :=
  qXF_ret (z := z) (by rw [hk]; exact hd) (by rw [hk]; rfl) (by rw [hk]; exact hz) (fun e => by rw [hk] at e; cases e) hc h
theorem qXF_return (hk : M.2.2.2.1 = 0) (hd : decode M.2.1 pc = .ok (.return_, 1)) (hc : kc.1 ≤ M.2.2.2.2.cells ∧ kc.2 ≤ M.2.2.2.2.slots) (h : Fi G 0 ρ μ) : qXF M Fi G kc pc lv [] ρ μ :=
  qXF_ret (z := 0) (by rw [hk]; exact hd) (by rw [hk]; rfl) (by rw [hk]; rfl) (fun e => by rw [hk] at e; cases e) hc h
theorem qXF_areturn {o : Nat} (hk : M.2.2.2.1 = 4) (hd : decode M.2.1 pc = .ok (.areturn, 1)) (hc : kc.1 ≤ M.2.2.2.2.cells ∧ kc.2 ≤ M.2.2.2.2.slots) (hn : o ≠ nid ∧ o < G.2.length) (h : Fi G o ρ μ) : qXF M Fi G kc pc lv (qP o :: []) ρ μ :=
  qXF_ret (z := (o : Int)) (by rw [hk]; exact hd) (by rw [hk]; rfl) (by rw [hk]; exact ⟨by omega, hn.1⟩) (fun _ => hn.2) hc h
end QROWS
section QRETS
variable {M : MI} {Gf G : Gx} {Post : Int → Rf → Mem → Prop} {kc : Nat × Nat} {pc : Nat} {lv : List (Option AV)} {ρ : Rf} {μ : Mem}
theorem qX_ireturn {z : Int} (hk : M.2.2.2.1 = 1) (hd : decode M.2.1 pc = .ok (.ireturn, 1)) (hG : G = Gf) (hc : kc.1 ≤ M.2.2.2.2.cells ∧ kc.2 ≤ M.2.2.2.2.slots) (h : Post z ρ μ) : qX M Gf Post G kc pc lv (qI z :: []) ρ μ := qXF_ireturn hk hd hc ⟨hG, h⟩
theorem qX_lreturn {z : Int} (hk : M.2.2.2.1 = 2) (hd : decode M.2.1 pc = .ok (.lreturn, 1)) (hG : G = Gf) (hc : kc.1 ≤ M.2.2.2.2.cells ∧ kc.2 ≤ M.2.2.2.2.slots) (h : Post z ρ μ) : qX M Gf Post G kc pc lv (qJ z :: []) ρ μ := qXF_lreturn hk hd hc ⟨hG, h⟩
theorem qX_zreturn {z : Int} (hk : M.2.2.2.1 = 3) (hd : decode M.2.1 pc = .ok (.ireturn, 1)) (hG : G = Gf) (hc : kc.1 ≤ M.2.2.2.2.cells ∧ kc.2 ≤ M.2.2.2.2.slots) (hz : z = 0 ∨ z = 1) (h : Post z ρ μ) : qX M Gf Post G kc pc lv (qI z :: []) ρ μ := qXF_zreturn hk hd hc hz ⟨hG, h⟩
theorem qX_return (hk : M.2.2.2.1 = 0) (hd : decode M.2.1 pc = .ok (.return_, 1)) (hG : G = Gf) (hc : kc.1 ≤ M.2.2.2.2.cells ∧ kc.2 ≤ M.2.2.2.2.slots) (h : Post 0 ρ μ) : qX M Gf Post G kc pc lv [] ρ μ := qXF_return hk hd hc ⟨hG, h⟩
theorem qX_areturn {o : Nat} (hk : M.2.2.2.1 = 4) (hd : decode M.2.1 pc = .ok (.areturn, 1)) (hG : G = Gf) (hc : kc.1 ≤ M.2.2.2.2.cells ∧ kc.2 ≤ M.2.2.2.2.slots) (hn : o ≠ nid ∧ o < Gf.2.length) (h : Post o ρ μ) : qX M Gf Post G kc pc lv (qP o :: []) ρ μ := qXF_areturn hk hd hc (by rw [hG]; exact hn) ⟨hG, h⟩
end QRETS
