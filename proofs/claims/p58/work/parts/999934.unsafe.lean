/-! ===== a long read over two ints of an array ===== -/
def yGL : MethodName := ⟨"jdk/internal/misc/Unsafe", "getLong", "(Ljava/lang/Object;J)J"⟩
theorem kS_GL : Cond.selects RJx9a822 yGL yGL ∈ Wd := kmem (i := 1116) (by decide +kernel) (by decide +kernel)
set_option maxRecDepth 1000000 in
theorem gl_pre : ((Jvm.natives.take 460).find? (fun r : NativeRow => r.name == "getLong" && r.cls == "jdk/internal/misc/Unsafe" && r.desc == "(Ljava/lang/Object;J)J")).isNone = true := by decide +kernel
set_option maxRecDepth 1000000 in
theorem gl_at : Jvm.natives.drop 460 = Native.jdk_internal_misc_Unsafe.memory.getRow "Long" "J" .long "" .plain :: Jvm.natives.drop 461 := by rfl
theorem gl_row : NativeRow.find? Jvm.natives "jdk/internal/misc/Unsafe" "getLong" "(Ljava/lang/Object;J)J" = some (Native.jdk_internal_misc_Unsafe.memory.getRow "Long" "J" .long "" .plain) := by
  unfold NativeRow.find?
  rw [← List.take_append_drop 460 Jvm.natives, List.find?_append, Option.isNone_iff_eq_none.mp gl_pre, gl_at]
  rfl
theorem gl_rowp (p : Program) : NativeRow.find? p.tables.natives "jdk/internal/misc/Unsafe" "getLong" "(Ljava/lang/Object;J)J" = some (Native.jdk_internal_misc_Unsafe.memory.getRow "Long" "J" .long "" .plain) := by
  cases p <;> exact gl_row
section GLW
variable {E : CtlPost} {e : Env} {d : Bool} {acts : List Action} {s : State}
theorem loc_ints {a : Addr} {A : Cell} {k : Class} {comp : ClassId} {q : Nat} {off : Int64} {Q : UnsafeMem.Target → Jvm.Pre}
    (hA : s.heap[a]? = some A) (hvm : A.vm = .none) (hk : s.vm.classes[A.cls]? = some k) (hkind : k.kind = .array comp .int) (hneg : ¬ off < 0) (hoff : off.toNatClampNeg = 16 + q) : wp (UnsafeMem.locate (.ref a) off .long) Q E e d acts s ↔ Q (UnsafeMem.Target.bytes a .int q) d acts s := by
  simp [UnsafeMem.locate, hneg, hoff, hA, Cell.info, hvm, hk, hkind, UnsafeMem.arrayBase, UnsafeMem.scaleOf, UnsafeMem.isRefType]
/-- byte j of an int -/
def iby (x : Int32) (j : Nat) : Nat := x.toUInt32.toNat % 2 ^ 32 / 2 ^ (8 * j) % 256
theorem rb_int {a : Addr} {A : Cell} {i j q : Nat} {x : Int32} {Q : Nat → Jvm.Pre} (hA : s.heap[a]? = some A) (hvm : A.vm = .none) (h : A.slots[i]? = some (.int x)) (hq : q / 4 = i) (hj : q % 4 = j) :
    wp (UnsafeMem.readByte a .int q .plain) Q E e d acts s ↔ Q (iby x j) d (readActs ⟨a, i⟩ .plain (.int x) acts) s := by
  subst hq; subst hj
  simp [UnsafeMem.readByte, UnsafeMem.scaleOf, UnsafeMem.bitsOf, hA, hvm, h, iby]
/-- the long that lies over two ints -/
def lw2 (x y : Int32) : Int64 := ((([iby x 0, iby x 1, iby x 2, iby x 3, iby y 0, iby y 1, iby y 2, iby y 3].zipIdx.map fun (b, k) => b * 2 ^ (8 * k)).sum).toUInt64).toInt64
theorem get_ints {a : Addr} {A : Cell} {k : Class} {comp : ClassId} {w : Nat} {off : Int64} {x y : Int32} {Q : Value → Jvm.Pre}
    (hA : s.heap[a]? = some A) (hvm : A.vm = .none) (hk : s.vm.classes[A.cls]? = some k) (hkind : k.kind = .array comp .int) (hneg : ¬ off < 0) (hoff : off.toNatClampNeg = 16 + 8 * w)
    (h0 : A.slots[2 * w]? = some (.int x)) (h1 : A.slots[2 * w + 1]? = some (.int y)) (hQ : ∀ d' acts', Q (.long (lw2 x y)) d' acts' s) : wp (UnsafeMem.get .long (.ref a) off .plain) Q E e d acts s := by
  have hr : List.range (UnsafeMem.scaleOf .long) = [0, 1, 2, 3, 4, 5, 6, 7] := rfl
  simp only [UnsafeMem.get, wp_bind', loc_ints hA hvm hk hkind hneg hoff, hr, List.mapM, List.mapM.loop,
    rb_int (q := 8 * w + 0) (j := 0) hA hvm h0 (by omega) (by omega), rb_int (q := 8 * w + 1) (j := 1) hA hvm h0 (by omega) (by omega), rb_int (q := 8 * w + 2) (j := 2) hA hvm h0 (by omega) (by omega), rb_int (q := 8 * w + 3) (j := 3) hA hvm h0 (by omega) (by omega),
    rb_int (q := 8 * w + 4) (j := 0) hA hvm h1 (by omega) (by omega), rb_int (q := 8 * w + 5) (j := 1) hA hvm h1 (by omega) (by omega), rb_int (q := 8 * w + 6) (j := 2) hA hvm h1 (by omega) (by omega), rb_int (q := 8 * w + 7) (j := 3) hA hvm h1 (by omega) (by omega), wp_pure']
  exact hQ _ _
end GLW
theorem gl_desc : parseMethodDescriptor yGL.desc = some { parameters := [.object "java/lang/Object", .long], returnType := some .long } := by decide +kernel
set_option maxHeartbeats 1000000 in
theorem w_getL {p : Program} {l : Launch} {e : Env} {R : Room} {s : State} {m : MethodId} {args : Array Value} {below : List Frame} {meth : Method} {c : Code} {H : Heap} {locs : List Loc} {cells slots : Nat} {Q : State → Prop} {cc : ByteArray}
    (hexec : p.tables.exec = Jvm.exec) (hb : c.code = cc) {own : String} (hown : s.vm.findClass own = some m.cls) {idx : Nat} (hlink : (Cond.methodLink own idx yGL).before args s = true) (hinst : (Cond.instanceMethod yGL).before args s = true) (hsel : (Cond.selects RJx9a822 yGL yGL).before args s = true) (hnat : (Cond.native yGL).before args s = true)
    {u a : Addr} {cu A : Cell} (hu : H[u]? = some cu) (huv : cu.vm.isStatics = false) (huc : s.vm.findClass RJx9a822 = some cu.cls) (hA : H[a]? = some A) (hvm : A.vm = .none) {k : Class} {comp : ClassId} (hk : s.vm.classes[A.cls]? = some k) (hkind : k.kind = .array comp .int)
    {w : Nat} {off : Int64} {x y : Int32} (hneg : ¬ off < 0) (hoff : off.toNatClampNeg = 16 + 8 * w) (h0 : A.slots[2 * w]? = some (.int x)) (h1 : A.slots[2 * w + 1]? = some (.int y)) {pc : Nat} {ls : Array Slot} (hsize : ls.size = c.maxLocals) (hdg : decode cc pc = .ok (.invokevirtual idx, 3)) (hfr : 1 ≤ R.frames) (hlo : 17 ≤ R.locals)
    (kk : W p l e R s m args below meth c H locs cells slots Q (F0 m (pc + 3) ls [.long (lw2 x y)])) : W p l e R s m args below meth c H locs cells slots Q (F0 m pc ls [.long off, .ref a, .ref u]) := by
  intro T hT X
  obtain ⟨r, kr, mx, hnamed, hmeth, hkr, N⟩ := NativeOf.of_instance hnat hinst gl_desc
  obtain ⟨c2, r2, m2, q1, q2, q3, q4, kP, hkP, hkPi⟩ := Cond.selects_spec hsel
  cases huc.symm.trans q1
  have hy : yGL.cls ≠ "java/lang/invoke/MethodHandle" ∧ yGL.cls ≠ "java/lang/invoke/VarHandle" := by decide
  cases (State.methodFound?_of_named hnamed hy).symm.trans q2
  cases hnamed.symm.trans q3
  obtain ⟨r', methM, hnamed', hmethM, hstM, habM⟩ := Cond.instanceMethod_spec hinst
  cases hnamed.symm.trans hnamed'
  cases hmeth.symm.trans hmethM
  have hselP : selectMethod e.platform s.vm cu.cls r = .method r := by rw [Launch.admits_selectMethod X.admits]; exact q4
  subst hb
  obtain ⟨vm₁, X₁, hstep₁⟩ := X.invokevirtual hexec hown hlink hnamed hmeth hstM hkP hkPi hy (a := u) (cell := cu) (by rw [hT]; exact hu)
    (fun z h => by rw [h] at huv; cases huv) hselP hmeth habM hkP hkPi (g := F0 m pc ls [.long off, .ref a, .ref u]) rfl (argsL := [.ref a, .long off]) (rest := []) (by rw [N.sig]; rfl) rfl hdg
  obtain ⟨t, a1, b1⟩ := kk (T.setVm vm₁) hT X₁
  obtain ⟨k', N'⟩ := N.alike X₁.warmed.alike
  obtain ⟨ka, hka, hek⟩ := X₁.warmed.alike.2.2 _ _ hk
  have hka : (T.setVm vm₁).vm.classes[A.cls]? = some ka := hka
  have hkka : ka.kind = .array comp .int := by rw [hek]; exact hkind
  have hseen : seenByNative mx #[.ref u, .ref a, .long off] = #[.ref u, .ref a, .long off] := by simp [seenByNative, N.static, N.sig, narrow]
  refine ⟨t, hstep₁ _ (fun acts => ?_), b1⟩
  refine Steps.nativeEnds (row := Native.jdk_internal_misc_Unsafe.memory.getRow "Long" "J" .long "" .plain) (v := some (.long (lw2 x y))) (T := fun U => U) X₁.here acts N'.cls N'.meth N'.boot N'.native N'.noCode N'.noLock
    (by rw [N'.className, N'.name, N'.desc]; exact gl_rowp p) ?_ (fun _ => rfl) rfl (fun fs => X₁.here.code) ?_ hdg a1
  · rw [N'.className, N'.name]
    exact X₁.notFull hsize hfr (by
      rw [show nativeFrameWords yGL.cls yGL.name (operandWords (#[Value.ref u, .ref a, .long off] : Array Value).toList) = 6 from by
        show nativeFrameWords yGL.cls yGL.name 4 = 6
        decide +kernel]
      show 2 * 0 + 0 + (6 + 11) ≤ R.locals
      omega)
  · intro Q hq
    rw [show seenByNative mx (Value.ref u :: [Value.ref a, Value.long off]).toArray = #[.ref u, .ref a, .long off] from hseen] at hq ⊢
    show wp (do let v ← UnsafeMem.get .long (.ref a) off .plain; mark "nat.jdk_internal_misc_Unsafe.get"; Pure.pure (some v)) Q _ e false [] _
    simp only [wp_bind']
    refine get_ints (w := w) (A := A) (k := ka) (comp := comp) (show T.heap[a]? = some A by rw [hT]; exact hA) hvm hka hkka hneg hoff h0 h1 (fun d' acts' => ?_)
    simp
    exact hq _ _
