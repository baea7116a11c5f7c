/-! ===== calls and contracts ===== -/
def QPst (k n0 : Nat) (φ0 : Nat → Nat) (Gf : Gx) (Post : Int → Rf → Mem → Prop) (u : (Nat → Nat) × Rf × Mem × Int) : Prop := (Agr n0 u.1 φ0) ∧ MOk Gf u.2.1 u.2.2.1 ∧ Post u.2.2.2 u.2.1 u.2.2.1 ∧ retOk k u.2.2.2 ∧ (k = 4 → u.2.2.2.toNat < Gf.2.length)
def QBst (D : va_G) (cA : Nat → ClassId) (Gf : Gx) (A : Nat → Prop) (u : (Nat → Nat) × Rf × Mem × Int) (t : State) : Prop := va_P D vwCl (wsOf u.1 cA Gf.2 u.2.1 u.2.2.1) t.heap ∧ va_D A (wsOf u.1 cA Gf.2 u.2.1 u.2.2.1)
def QcX (k n0 : Nat) (φ0 : Nat → Nat) (Gf : Gx) (Post : Int → Rf → Mem → Prop) (D : va_G) (cA : Nat → ClassId) (A : Nat → Prop) : Array Value → State → Outcome → State → Prop := match k with
  | 0 => va_Qv (QPst 0 n0 φ0 Gf Post) (QBst D cA Gf A) A
  | 2 => va_Ql (fun r u => r = Int64.ofInt u.2.2.2 ∧ QPst 2 n0 φ0 Gf Post u) (QBst D cA Gf A) A
  | 4 => va_Qr (fun u => QPst 4 n0 φ0 Gf Post u) (fun u a t => a = u.1 u.2.2.2.toNat ∧ QBst D cA Gf A u t) A
  | k => va_Qi (fun r u => r = Int32.ofInt u.2.2.2 ∧ QPst k n0 φ0 Gf Post u) (QBst D cA Gf A) A
def PcX (as : List AV) (G : Gx) (ρ : Rf) (μ : Mem) (D : va_G) (cA : Nat → ClassId) (ad : AdT) (φ : Nat → Nat) (sz : Nat) : Array Value → State → Prop :=
  va_Pc (as.map (vlf φ)) (fun U => U.heap.size = sz ∧ va_P D vwCl (wsOf φ cA G.2 ρ μ) U.heap ∧ va_K D vwCl (tysOf cA) U ∧ va_D (fun _ => True) (wsOf φ cA G.2 ρ μ) ∧ EN ad (va_A (wsOf φ cA G.2 ρ μ) sz) U U.heap ∧ φ sid = ad.2.1 ∧ φ uid = ad.1)
/-- a method run on these arguments in this memory ends, its answer and the memory then are as Post says -/
def qE (M : MI) (Gf G : Gx) (as : List AV) (ρ : Rf) (μ : Mem) (Post : Int → Rf → Mem → Prop) : Prop :=
  MOk G ρ μ → okS G.2.length as → ∀ (l : Launch) (D : va_G) (cA : Nat → ClassId) (ad : AdT) (φ : Nat → Nat) (sz : Nat), Met l M.1 (qws M) M.2.2.2.2 (PcX as G ρ μ D cA ad φ sz) (QcX M.2.2.2.1 G.2.length φ Gf Post D cA (va_A (wsOf φ cA G.2 ρ μ) sz)) M.2.2.2.2.cells M.2.2.2.2.slots (va_A (wsOf φ cA G.2 ρ μ) sz)
theorem PcX_blind {as : List AV} {G : Gx} {ρ : Rf} {μ : Mem} {D : va_G} {cA : Nat → ClassId} {ad : AdT} {φ : Nat → Nat} {sz : Nat} : FrameBlind (PcX as G ρ μ D cA ad φ sz) := by
  intro a U g mk h
  obtain ⟨h1, h2, h3, h4, h5, h6⟩ := h
  exact ⟨h1, h2, h3, va_K.moved (u := U) (U := U.calling g mk a) (Vm.Alike.refl U.vm) h4, h5, EN.same (u := U) (U := U.calling g mk a) rfl h6.1, h6.2⟩
/-! ### the entry -/
def entA : List AV → List (Option AV)
  | [] => []
  | .inl z :: r => some (qI z) :: entA r
  | .inr (.inl z) :: r => some (qJ z) :: none :: entA r
  | .inr (.inr i) :: r => some (qP i) :: entA r
def entL (as : List AV) (n : Nat) : List (Option AV) := entA as ++ List.replicate (n - (entA as).length) none
theorem va_rf_cat (r : Option Nat) : (va_rf r).category = 1 := by cases r <;> rfl
theorem entA_len (φ : Nat → Nat) (as : List AV) : (lg_sl (as.map (vlf φ))).length = (entA as).length := by
  induction as with
  | nil => rfl
  | cons v r ih =>
    have e0 : ∀ (x : Value) (xs : List Value), lg_sl (x :: xs) = (if x.category = 2 then [.val x, .second] else [.val x]) ++ lg_sl xs := fun x xs => by simp [lg_sl]
    rcases v with z | z | i
    · rw [List.map_cons, e0, show (vlf φ (.inl z)).category = 1 from rfl]
      simp [entA, ih]
    · rw [List.map_cons, e0, show (vlf φ (.inr (.inl z))).category = 2 from rfl]
      simp [entA, ih]
    · rw [List.map_cons, e0, show (vlf φ (.inr (.inr i))).category = 1 from va_rf_cat _]
      simp [entA, ih]
theorem entA_args (φ : Nat → Nat) : ∀ (as : List AV) (k i : Nat) (v : AV), (entA as)[i]? = some (some v) → (k + i, vlf φ v) ∈ lv_args k (as.map (vlf φ))
  | [], k, i, v, h => by simp [entA] at h
  | .inl z :: r, k, 0, v, h => by
    simp [entA] at h
    subst h
    exact List.mem_cons_self
  | .inl z :: r, k, i + 1, v, h => by
    simp only [entA, List.getElem?_cons_succ] at h
    have h1 := entA_args φ r (k + 1) i v h
    rw [show k + (i + 1) = k + 1 + i by omega]
    exact List.mem_cons_of_mem _ h1
  | .inr (.inl z) :: r, k, 0, v, h => by
    simp [entA] at h
    subst h
    exact List.mem_cons_self
  | .inr (.inl z) :: r, k, 1, v, h => by simp [entA] at h
  | .inr (.inl z) :: r, k, i + 2, v, h => by
    simp only [entA, List.getElem?_cons_succ] at h
    have h1 := entA_args φ r (k + 2) i v h
    rw [show k + (i + 2) = k + 2 + i by omega]
    exact List.mem_cons_of_mem _ h1
  | .inr (.inr q) :: r, k, 0, v, h => by
    simp [entA] at h
    subst h
    exact List.mem_cons_self
  | .inr (.inr q) :: r, k, i + 1, v, h => by
    simp only [entA, List.getElem?_cons_succ] at h
    have h1 := entA_args φ r (k + 1) i v h
    rw [show k + (i + 1) = k + 1 + i by omega]
    refine List.mem_cons_of_mem _ ?_
    rw [show (vlf φ (.inr (.inr q))).category = 1 from va_rf_cat _]
    exact h1
theorem entL_at {as : List AV} {n i : Nat} {v : AV} (h : (entL as n)[i]? = some (some v)) : (entA as)[i]? = some (some v) := by
  unfold entL at h
  by_cases hi : i < (entA as).length
  · rwa [List.getElem?_append_left hi] at h
  · rw [List.getElem?_append_right (by omega)] at h
    have := List.mem_of_getElem? h
    simp at this
theorem entA_mem {as : List AV} {v : AV} (h : some v ∈ entA as) : v ∈ as := by
  induction as with
  | nil => simp [entA] at h
  | cons x r ih =>
    rcases x with z | z | i
    · simp only [entA, List.mem_cons] at h
      rcases h with h | h
      · cases h; exact List.mem_cons_self
      · exact List.mem_cons_of_mem _ (ih h)
    · simp only [entA, List.mem_cons] at h
      rcases h with h | h | h
      · cases h; exact List.mem_cons_self
      · cases h
      · exact List.mem_cons_of_mem _ (ih h)
    · simp only [entA, List.mem_cons] at h
      rcases h with h | h
      · cases h; exact List.mem_cons_self
      · exact List.mem_cons_of_mem _ (ih h)
set_option maxHeartbeats 4000000 in
theorem qE_intro {M : MI} {Gf G : Gx} {as : List AV} {ρ : Rf} {μ : Mem} {Post : Int → Rf → Mem → Prop} (hy : plainName M.1.cls = true) (hlen : (entA as).length ≤ M.2.2.1) (hGf : G.2.length ≤ Gf.2.length) (h : qX M Gf Post G (0, 0) 0 (entL as M.2.2.1) [] ρ μ) : qE M Gf G as ρ μ Post := by
  intro hM hks l D cA ad φ sz
  refine Met.ofW (cc := M.2.1) (maxL := M.2.2.1) (ret := qret M.2.2.2.1) (ws' := Wd) hy rfl ?_
  intro p e s m args below meth c s₁ B hml hv
  obtain ⟨rfl, hsz, hP, hK, hD0, hEN⟩ := hv
  have hx := B.exec
  have hb := B.bytes
  have hr := B.returns
  have hts := atoms_spec (ws := qws M) B.pre
  have hown : s.vm.findClass M.1.cls = some m.cls := findClass_of_methodNamed B.named
  have hlocks := B.notSynchronized
  have hin : meth.name = M.1.name := (name_of_methodNamed B.named B.method).1
  subst hsz
  have hD := hD0.self (sz := s.heap.size)
  have hS : va_S (va_A (wsOf φ cA G.2 ρ μ) s.heap.size) s.heap s.heap [] := va_S.rf
  have hl := lv_entry (as.map (vlf φ)) (n := M.2.2.1) (by rw [entA_len]; exact hlen)
  rw [lg_entry_eq]
  generalize (lg_sl (as.map (vlf φ)) ++ List.replicate (M.2.2.1 - (lg_sl (as.map (vlf φ))).length) Slot.unset).toArray = ls at hl ⊢
  have hlv : qlv φ ls M.2.2.1 (entL as M.2.2.1) := ⟨hl.1, hl.2.1, fun q hq => by
    obtain ⟨v, h1, h2⟩ := qpr_mem.mp hq
    have h3 := entA_args φ as 0 q.1 v (entL_at h1)
    rw [Nat.zero_add] at h3
    rw [h2]
    exact hl.2.2 _ h3⟩
  have hkl : okL G.2.length (entL as M.2.2.1) := by
    intro v hv
    obtain ⟨i, hi⟩ := List.getElem?_of_mem hv
    exact hks v (entA_mem (List.mem_of_getElem? (entL_at hi)))
  refine h p l e s m _ below meth c D cA ad (va_A (wsOf φ cA G.2 ρ μ) s.heap.size) G.2.length φ _ ⟨hx, hb, hml, hown, fun w hw => hts w (List.mem_cons_of_mem _ hw), hEN, hK, fun q hq => Or.inr hq, fun e => hin.trans e, ?_⟩ φ s.heap [] ls (fun _ _ => rfl) (Nat.le_refl _) hM hlv hkl okS_0 hP hD hS
  rintro G' φ' ρ' μ' H locs pc ls' z hφ hn hM' hP' hD' hS' ⟨hGf', hpost⟩ hz hz4 hd
  subst hGf'
  revert hr hz hz4 hd
  generalize M.2.2.2.1 = k
  intro hr hz hz4 hd
  match k, hr, hz, hz4, hd with
  | 0, hr, hz, hz4, hd => exact W.vret hx hb hr (fun t ht hW => ⟨⟨(φ', ρ', μ', z), rfl, ⟨hφ, hM', hpost, hz, hz4⟩, by rw [ht]; exact hP', hD'⟩, hS'.F ht⟩) hS'.2.2 hd
  | 1, hr, hz, hz4, hd => exact W.iret hx hb hr (fun t ht hW => ⟨⟨Int32.ofInt z, (φ', ρ', μ', z), rfl, ⟨rfl, hφ, hM', hpost, hz, hz4⟩, by rw [ht]; exact hP', hD'⟩, hS'.F ht⟩) hS'.2.2 hd
  | 2, hr, hz, hz4, hd => exact W.lret hx hb hr (fun t ht hW => ⟨⟨Int64.ofInt z, (φ', ρ', μ', z), rfl, ⟨rfl, hφ, hM', hpost, hz, hz4⟩, by rw [ht]; exact hP', hD'⟩, hS'.F ht⟩) hS'.2.2 hd
  | 3, hr, hz, hz4, hd => exact W.zret (ty := .boolean) hx hb hr (by rcases hz with rfl | rfl <;> rfl) (fun t ht hW => ⟨⟨Int32.ofInt z, (φ', ρ', μ', z), rfl, ⟨rfl, hφ, hM', hpost, hz, hz4⟩, by rw [ht]; exact hP', hD'⟩, hS'.F ht⟩) hS'.2.2 hd
  | 4, hr, hz, hz4, hd =>
    have e9 : retV φ' 4 z = [.ref (φ' z.toNat)] := congrArg (fun x => [x]) (vlf_nn hz.2)
    rw [e9]
    exact W.aret hx hb hr (Or.inr ⟨_, rfl⟩) (Or.inr ⟨_, rfl⟩) (fun t ht hW => ⟨⟨(φ', ρ', μ', z), φ' z.toNat, rfl, ⟨hφ, hM', hpost, hz, hz4⟩, rfl, by rw [ht]; exact hP', hD'⟩, hS'.F ht⟩) hS'.2.2 hd
  | k + 5, hr, hz, hz4, hd => exact W.zret (ty := .boolean) hx hb hr (by rcases hz with rfl | rfl <;> rfl) (fun t ht hW => ⟨⟨Int32.ofInt z, (φ', ρ', μ', z), rfl, ⟨rfl, hφ, hM', hpost, hz, hz4⟩, by rw [ht]; exact hP', hD'⟩, hS'.F ht⟩) hS'.2.2 hd
/-! ### a call -/
def AofH (φ : Nat → Nat) (cA : Nat → ClassId) (G : Gx) (ρ : Rf) (μ : Mem) (H : Heap) : Nat → Prop := va_A (wsOf φ cA G.2 ρ μ) H.size
theorem AofH_in {φ : Nat → Nat} {cA : Nat → ClassId} {G : Gx} {ρ : Rf} {μ : Mem} {H H0 : Heap} {A : Nat → Prop} {locs : List Loc} (hD : va_D A (wsOf φ cA G.2 ρ μ)) (hA : ∀ q, H0.size ≤ q → A q) (hS : va_S A H0 H locs) : ∀ q, va_A (wsOf φ cA G.2 ρ μ) H.size q → A q := by
  intro q h
  rcases h with ⟨k, e, h⟩ | h
  · exact hD.2 k (q, e) h
  · exact hA q (Nat.le_trans hS.1 h)
theorem qlv_size {φ : Nat → Nat} {ls : Array Slot} {n : Nat} {lv : List (Option AV)} (h : qlv φ ls n lv) : ls.size = n := h.1
theorem retA_ok {k n : Nat} {z : Int} (h : retOk k z) (h4 : k = 4 → z.toNat < n) {st : List AV} (hst : okS n st) : okS n (retA k z ++ st) := by
  match k, h, h4 with
  | 0, _, _ => exact hst
  | 1, h, _ => exact okS_c h hst
  | 2, h, _ => exact okS_c h hst
  | 4, h, h4 => exact okS_c (Or.inl (h4 rfl)) hst
  | 3, h, _ => exact okS_c (by rcases h with rfl | rfl <;> (show i32 _; unfold i32; omega)) hst
  | k + 5, h, _ => exact okS_c (by rcases h with rfl | rfl <;> (show i32 _; unfold i32; omega)) hst
theorem st_ext {φ φ' : Nat → Nat} {n : Nat} {st : List AV} (h : okS n st) (hφ : Agr n φ' φ) : st.map (vlf φ') = st.map (vlf φ) := List.map_congr_left (fun v hv => vlf_ext (h v hv) hφ)
section QCALL
variable {M : MI} {G : Gx} {Fi : Gx → Int → Rf → Mem → Prop} {kc : Nat × Nat} {pc : Nat} {lv : List (Option AV)} {ρ : Rf} {μ : Mem}
set_option maxHeartbeats 4000000 in
theorem q_after {Mc : MI} {Gc : Gx} {Post' : Int → Rf → Mem → Prop} {st : List AV} {g : List Value} {a : Array Value} (hG : G.2.length ≤ Gc.2.length)
    (kk : ∀ (z : Int) (ρ' : Rf) (μ' : Mem), Post' z ρ' μ' → qXF M Fi Gc (kc.1 + Mc.2.2.2.2.cells, kc.2 + Mc.2.2.2.2.slots) (pc + 3) lv (retA Mc.2.2.2.1 z ++ st) ρ' μ')
    {p : Program} {l : Launch} {e : Env} {s : State} {m : MethodId} {args : Array Value} {below : List Frame} {meth : Method} {c : Code} {D : va_G} {cA : Nat → ClassId} {ad : AdT} {A : Nat → Prop} {n0 : Nat} {φ0 : Nat → Nat} {Q : State → Prop} (C : Cx M Fi p l e s m args below meth c D cA ad A n0 φ0 Q)
    {φ : Nat → Nat} {H : Heap} {locs : List Loc} {ls : Array Slot} (hφ : Agr n0 φ φ0) (hn : n0 ≤ G.2.length) (hl : qlv φ ls M.2.2.1 lv) (hkl : okL G.2.length lv) (hks : okS G.2.length st) (hD : va_D A (wsOf φ cA G.2 ρ μ)) (hS : va_S A s.heap H locs)
    (hr : va_Run p l e M.2.2.2.2 s m args below meth c H locs kc.1 kc.2 Mc.2.2.2.2.cells Mc.2.2.2.2.slots (F0 m pc ls g) (st.map (vlf φ)) (QcX Mc.2.2.2.1 G.2.length φ Gc Post' D cA (va_A (wsOf φ cA G.2 ρ μ) H.size) a) (va_A (wsOf φ cA G.2 ρ μ) H.size)) :
    W p l e M.2.2.2.2 s m args below meth c H locs kc.1 kc.2 Q (F0 m pc ls g) := by
  have hF := AofH_in hD C.2.2.2.2.2.2.2.1 hS
  have fin : ∀ (u : (Nat → Nat) × Rf × Mem × Int) (H1 : Heap) (locs1 : List Loc) (t : State), t.heap = H1 → QPst Mc.2.2.2.1 G.2.length φ Gc Post' u → QBst D cA Gc (va_A (wsOf φ cA G.2 ρ μ) H.size) u t → va_S A s.heap H1 locs1 → W p l e M.2.2.2.2 s m args below meth c H1 locs1 (kc.1 + Mc.2.2.2.2.cells) (kc.2 + Mc.2.2.2.2.slots) Q (F0 m (pc + 3) ls ((retA Mc.2.2.2.1 u.2.2.2 ++ st).map (vlf u.1))) := by
    intro u H1 locs1 t ht hq hb hS1
    obtain ⟨q1, q2, q3, q4⟩ := hq
    obtain ⟨b1, b2⟩ := hb
    rw [ht] at b1
    exact kk u.2.2.2 u.2.1 u.2.2.1 q3 p l e s m args below meth c D cA ad A n0 φ0 Q C u.1 H1 locs1 ls (fun i hi => (q1 i (by omega)).trans (hφ i hi)) (by omega) q2 (qlv_ext hl hkl q1) (fun v hv => avOk_mono (hkl v hv) hG) (retA_ok q4.1 q4.2 (fun v hv => avOk_mono (hks v hv) hG)) b1 (b2.weaken (fun _ q _ h => hF _ h)) hS1
  revert hr fin
  generalize Mc.2.2.2.1 = k
  intro hr fin
  match k, hr, fin with
  | 0, hr, fin =>
    refine va_callv (a := a) hr hS (fun q _ h => hF q h) hF (fun u t H1 locs1 ht hvm hq hb hz1 hk1 hS1 => ?_)
    have h1 := fin u H1 locs1 t ht hq hb hS1
    rw [show ((retA 0 u.2.2.2 ++ st).map (vlf u.1)) = st.map (vlf φ) from st_ext hks hq.1] at h1
    exact h1
  | 2, hr, fin =>
    refine va_calll (a := a) hr hS (fun q _ h => hF q h) hF (fun r u t H1 locs1 ht hvm hq hb hz1 hk1 hS1 => ?_)
    have h1 := fin u H1 locs1 t ht hq.2 hb hS1
    rw [show ((retA 2 u.2.2.2 ++ st).map (vlf u.1)) = .long r :: st.map (vlf φ) by rw [hq.1]; show _ :: st.map (vlf u.1) = _; rw [st_ext hks hq.2.1]; rfl] at h1
    exact h1
  | 1, hr, fin =>
    refine va_calli (a := a) hr hS (fun q _ h => hF q h) hF (fun r u t H1 locs1 ht hvm hq hb hz1 hk1 hS1 => ?_)
    have h1 := fin u H1 locs1 t ht hq.2 hb hS1
    rw [show ((retA 1 u.2.2.2 ++ st).map (vlf u.1)) = .int r :: st.map (vlf φ) by rw [hq.1]; show _ :: st.map (vlf u.1) = _; rw [st_ext hks hq.2.1]; rfl] at h1
    exact h1
  | 3, hr, fin =>
    refine va_calli (a := a) hr hS (fun q _ h => hF q h) hF (fun r u t H1 locs1 ht hvm hq hb hz1 hk1 hS1 => ?_)
    have h1 := fin u H1 locs1 t ht hq.2 hb hS1
    rw [show ((retA 3 u.2.2.2 ++ st).map (vlf u.1)) = .int r :: st.map (vlf φ) by rw [hq.1]; show _ :: st.map (vlf u.1) = _; rw [st_ext hks hq.2.1]; rfl] at h1
    exact h1
  | 4, hr, fin =>
    refine va_callr (a := a) hr hS (fun q _ h => hF q h) hF (fun u ra t H1 locs1 ht hvm hq hb hz1 hk1 hS1 => ?_)
    have h1 := fin u H1 locs1 t ht hq hb.2 hS1
    rw [show ((retA 4 u.2.2.2 ++ st).map (vlf u.1)) = .ref ra :: st.map (vlf φ) by rw [hb.1]; show vlf u.1 (qP u.2.2.2.toNat) :: st.map (vlf u.1) = _; rw [st_ext hks hq.1, vlf_nn hq.2.2.2.1.2]] at h1
    exact h1
  | k + 5, hr, fin =>
    refine va_calli (a := a) hr hS (fun q _ h => hF q h) hF (fun r u t H1 locs1 ht hvm hq hb hz1 hk1 hS1 => ?_)
    have h1 := fin u H1 locs1 t ht hq.2 hb hS1
    rw [show ((retA (k + 5) u.2.2.2 ++ st).map (vlf u.1)) = .int r :: st.map (vlf φ) by rw [hq.1]; show _ :: st.map (vlf u.1) = _; rw [st_ext hks hq.2.1]; rfl] at h1
    exact h1
/-- what a call needs of the tables, by its kind -/
def noMH (y : MethodName) : Prop := y.cls ≠ "java/lang/invoke/MethodHandle" ∧ y.cls ≠ "java/lang/invoke/VarHandle"
def CM (own : String) (ix ci na : Nat) (Mc : MI) : Prop := ∃ q : vw_C, vwCl[ci]? = some q ∧ Cond.methodLink own ix Mc.1 ∈ Wd ∧ Cond.instanceMethod Mc.1 ∈ Wd ∧ Cond.selects q.1 Mc.1 Mc.1 ∈ Wd ∧ Cond.initialized Mc.1.cls ∈ Wd ∧ Cond.code Mc.1 Mc.2.1 Mc.2.2.1 (qret Mc.2.2.2.1) ∈ Wd ∧ noMH Mc.1 ∧ (parseMethodDescriptor Mc.1.desc).map (fun d => d.parameters.length) = some na
def CSt (own : String) (ix na : Nat) (Mc : MI) : Prop := Cond.methodLink own ix Mc.1 ∈ Wd ∧ Cond.static Mc.1 ∈ Wd ∧ Cond.initialized Mc.1.cls ∈ Wd ∧ Cond.code Mc.1 Mc.2.1 Mc.2.2.1 (qret Mc.2.2.2.1) ∈ Wd ∧ noMH Mc.1 ∧ (parseMethodDescriptor Mc.1.desc).map (fun d => d.parameters.length) = some na
def CSN (own : String) (ix na : Nat) (Mc : MI) : Prop := (∃ host, (own, ix, Mc.1, host) ∈ nwl) ∧ Cond.static Mc.1 ∈ Wd ∧ Cond.initialized Mc.1.cls ∈ Wd ∧ Cond.code Mc.1 Mc.2.1 Mc.2.2.1 (qret Mc.2.2.2.1) ∈ Wd ∧ noMH Mc.1 ∧ (parseMethodDescriptor Mc.1.desc).map (fun d => d.parameters.length) = some na
def CIn (own : String) (ix : Nat) (Mc : MI) : Prop := Cond.methodLink own ix Mc.1 ∈ Wd ∧ Mc.1.name = "<init>" ∧ Cond.instanceMethod Mc.1 ∈ Wd ∧ Cond.initialized Mc.1.cls ∈ Wd ∧ Cond.code Mc.1 Mc.2.1 Mc.2.2.1 none ∈ Wd ∧ noMH Mc.1 ∧ (parseMethodDescriptor Mc.1.desc).map (fun d => d.parameters.length) = some 0 ∧ Mc.2.2.2.1 = 0
def CNN (own : String) (ix : Nat) (Mc : MI) : Prop := (∃ host, (own, ix, Mc.1, host) ∈ nwl) ∧ Mc.1.name = "<init>" ∧ Cond.instanceMethod Mc.1 ∈ Wd ∧ Cond.initialized Mc.1.cls ∈ Wd ∧ Cond.code Mc.1 Mc.2.1 Mc.2.2.1 none ∈ Wd ∧ noMH Mc.1 ∧ (parseMethodDescriptor Mc.1.desc).map (fun d => d.parameters.length) = some 0 ∧ Mc.2.2.2.1 = 0
def CR (M Mc : MI) : Prop := Mc.2.2.2.2.frames + 1 ≤ M.2.2.2.2.frames ∧ 8 + (Mc.2.2.1 + 11) + Mc.2.2.2.2.locals ≤ M.2.2.2.2.locals
theorem good_ws {Mc : MI} {r : Option FieldType} (h : Cond.code Mc.1 Mc.2.1 Mc.2.2.1 r ∈ Wd) : ∀ w ∈ (Cond.code Mc.1 Mc.2.1 Mc.2.2.1 r :: Wd), w ∈ Wd ∧ ((w.onTables && w.keeps) = true ∨ ∃ ty, w = .arrayClass ty) := by
  intro w hw
  rcases List.mem_cons.mp hw with e | e
  · subst e; exact ⟨h, good_of_word (Wd_good h)⟩
  · exact ⟨e, good_of_word (Wd_good e)⟩
theorem na_of {y : MethodName} {n : Nat} (h : (parseMethodDescriptor y.desc).map (fun d => d.parameters.length) = some n) : ∀ sig, parseMethodDescriptor y.desc = some sig → n = sig.parameters.length := fun sig e => by
  rw [e] at h
  exact (Option.some.inj h).symm
theorem vlf_sum {φ : Nat → Nat} {st : List AV} : ((st.map (vlf φ)).map fun v => v.category).sum ≤ 2 * st.length := by
  induction st with
  | nil => exact Nat.le_refl _
  | cons v r ih =>
    have h1 : (vlf φ v).category ≤ 2 := by
      rcases v with z | z | i
      · exact Nat.le_of_ble_eq_true rfl
      · exact Nat.le_refl _
      · rw [show (vlf φ (.inr (.inr i))).category = 1 from va_rf_cat _]; omega
    simp only [List.map_cons, List.sum_cons, List.length_cons]
    omega
def csz : List AV → Nat
  | [] => 0
  | .inr (.inl _) :: r => 2 + csz r
  | _ :: r => 1 + csz r
theorem vlf_csz {φ : Nat → Nat} : ∀ (st : List AV), ((st.map (vlf φ)).map fun v => v.category).sum ≤ csz st
  | [] => Nat.le_refl _
  | .inl z :: r => by
    have ih := vlf_csz (φ := φ) r
    have h1 : (vlf φ (.inl z)).category = 1 := rfl
    simp only [List.map_cons, List.sum_cons, csz]
    omega
  | .inr (.inl z) :: r => by
    have ih := vlf_csz (φ := φ) r
    have h1 : (vlf φ (.inr (.inl z))).category = 2 := rfl
    simp only [List.map_cons, List.sum_cons, csz]
    omega
  | .inr (.inr i) :: r => by
    have ih := vlf_csz (φ := φ) r
    have h1 : (vlf φ (.inr (.inr i))).category = 1 := va_rf_cat _
    simp only [List.map_cons, List.sum_cons, csz]
    omega
theorem CR_pre {as : List AV} {D : va_G} {cA : Nat → ClassId} {ad : AdT} {A : Nat → Prop} {n0 : Nat} {φ0 : Nat → Nat} {Q : State → Prop} {p : Program} {l : Launch} {e : Env} {s : State} {m : MethodId} {args : Array Value} {below : List Frame} {meth : Method} {c : Code} (C : Cx M Fi p l e s m args below meth c D cA ad A n0 φ0 Q)
    {φ : Nat → Nat} {H : Heap} {locs : List Loc} (hφ : Agr n0 φ φ0) (hP : va_P D vwCl (wsOf φ cA G.2 ρ μ) H) (hD : va_D A (wsOf φ cA G.2 ρ μ)) (hS : va_S A s.heap H locs) (U : State) (hU : U.heap = H) (hW : s.WarmedH U.vm) : PcX as G ρ μ D cA ad φ H.size (as.map (vlf φ)).toArray U := by
  have hF := AofH_in hD C.2.2.2.2.2.2.2.1 hS
  refine ⟨rfl, by rw [hU], by rw [hU]; exact hP, va_K.moved hW.alike C.2.2.2.2.2.2.1, hD.weaken (fun _ _ _ _ => trivial), ?_⟩
  rw [hU]
  exact ⟨((C.2.2.2.2.2.1.1.kept hS.2.1).warm hW).narrow hF, (hφ sid (Or.inr (by decide))).trans C.2.2.2.2.2.1.2.1, (hφ uid (Or.inr (by decide))).trans C.2.2.2.2.2.1.2.2⟩
set_option maxHeartbeats 4000000 in
theorem qX_callV (Mc : MI) (as : List AV) (o ci : Nat) (st : List AV) {stk : List AV} {Gc : Gx} {Post' : Int → Rf → Mem → Prop} {ix na n : Nat} (hd : decode M.2.1 pc = .ok (.invokevirtual ix, 3)) (hc : CM M.1.cls ix ci na Mc) (hR : CR M Mc) (hst : stk = as.reverse ++ qP o :: st) (hna : as.length = na) (ho : G.2[o]? = some (ci, n)) (hcat : csz st ≤ 8) (hcap : kc.1 + Mc.2.2.2.2.cells ≤ M.2.2.2.2.cells ∧ kc.2 + Mc.2.2.2.2.slots ≤ M.2.2.2.2.slots) (hE : qE Mc Gc G (qP o :: as) ρ μ Post') (hG : G.2.length ≤ Gc.2.length)
    (kk : ∀ (z : Int) (ρ' : Rf) (μ' : Mem), Post' z ρ' μ' → qXF M Fi Gc (kc.1 + Mc.2.2.2.2.cells, kc.2 + Mc.2.2.2.2.slots) (pc + 3) lv (retA Mc.2.2.2.1 z ++ st) ρ' μ') : qXF M Fi G kc pc lv stk ρ μ := by
  intro p l e s m args below meth c D cA ad A n0 φ0 Q C φ H locs ls hφ hn hM hl hkl hks hP hD hS
  subst hst
  obtain ⟨q, hq, w1, w2, w3, w4, w5, w6, w7⟩ := hc
  have hts := C.2.2.2.2.1
  have hks1 : okS G.2.length st := fun v hv => hks v (List.mem_append_right _ (List.mem_cons_of_mem _ hv))
  have hks2 : okS G.2.length (qP o :: as) := fun v hv => by
    rcases List.mem_cons.mp hv with e | e
    · rw [e]; exact hks _ (List.mem_append_right _ List.mem_cons_self)
    · exact hks v (List.mem_append_left _ (List.mem_reverse.mpr e))
  have hMet := hE hM hks2 l D cA ad φ H.size
  have he := wsOf_get (φ := φ) (cA := cA) (ρ := ρ) (μ := μ) ho
  rw [cellE_obj (vwCl_lt hq)] at he
  have hrev : (as.reverse ++ qP o :: st).map (vlf φ) = (as.map (vlf φ)).reverse ++ .ref (φ o) :: st.map (vlf φ) := by
    rw [List.map_append, List.map_cons, List.map_reverse, vlf_P hM ho]
  rw [hrev]
  have hpre : PreV s H q.1 (φ o) (PcX (qP o :: as) G ρ μ D cA ad φ H.size) (as.map (vlf φ)) := ⟨PcX_blind, va_recv C.2.2.2.2.2.2.1 hP hq he, fun U hU hW => by
    have h1 := CR_pre (as := qP o :: as) C hφ hP hD hS U hU hW
    rw [List.map_cons, vlf_P hM ho] at h1
    exact h1⟩
  refine q_after hG kk C hφ hn hl hkl hks1 hD hS (va_runV (As := as.map (vlf φ)) (own := M.1.cls) (C := q.1) (n := na) ⟨C.1, C.2.1, C.2.2.1, C.2.2.2.1, hts⟩ hMet ⟨⟨rfl, rfl, hR.1, hR.2, pay_in hts (good_ws w5), List.mem_cons_self, hts _ w5, hts _ w4, w6, na_of w7, hts _ w1⟩, hts _ w2, hts _ w3⟩ hpre rfl (by rw [List.length_map]; exact hna) hl.1 rfl (lv_room (Nat.le_trans (vlf_csz _) hcat)) hd hcap)
set_option maxHeartbeats 4000000 in
theorem qX_callS (Mc : MI) (as : List AV) (st : List AV) {stk : List AV} {Gc : Gx} {Post' : Int → Rf → Mem → Prop} {ix na : Nat} (hd : decode M.2.1 pc = .ok (.invokestatic ix, 3)) (hc : CSt M.1.cls ix na Mc) (hR : CR M Mc) (hst : stk = as.reverse ++ st) (hna : as.length = na) (hcat : csz st ≤ 8) (hcap : kc.1 + Mc.2.2.2.2.cells ≤ M.2.2.2.2.cells ∧ kc.2 + Mc.2.2.2.2.slots ≤ M.2.2.2.2.slots) (hE : qE Mc Gc G as ρ μ Post') (hG : G.2.length ≤ Gc.2.length)
    (kk : ∀ (z : Int) (ρ' : Rf) (μ' : Mem), Post' z ρ' μ' → qXF M Fi Gc (kc.1 + Mc.2.2.2.2.cells, kc.2 + Mc.2.2.2.2.slots) (pc + 3) lv (retA Mc.2.2.2.1 z ++ st) ρ' μ') : qXF M Fi G kc pc lv stk ρ μ := by
  intro p l e s m args below meth c D cA ad A n0 φ0 Q C φ H locs ls hφ hn hM hl hkl hks hP hD hS
  subst hst
  obtain ⟨w1, w2, w4, w5, w6, w7⟩ := hc
  have hts := C.2.2.2.2.1
  have hks1 : okS G.2.length st := fun v hv => hks v (List.mem_append_right _ hv)
  have hks2 : okS G.2.length as := fun v hv => hks v (List.mem_append_left _ (List.mem_reverse.mpr hv))
  have hMet := hE hM hks2 l D cA ad φ H.size
  have hrev : (as.reverse ++ st).map (vlf φ) = (as.map (vlf φ)).reverse ++ st.map (vlf φ) := by
    rw [List.map_append, List.map_reverse]
  rw [hrev]
  have hpre : PreS s H (PcX as G ρ μ D cA ad φ H.size) (as.map (vlf φ)) := ⟨PcX_blind, fun U hU hW => CR_pre C hφ hP hD hS U hU hW⟩
  refine q_after hG kk C hφ hn hl hkl hks1 hD hS (va_runS (As := as.map (vlf φ)) (own := M.1.cls) (n := na) ⟨C.1, C.2.1, C.2.2.1, C.2.2.2.1, hts⟩ hMet ⟨⟨rfl, rfl, hR.1, hR.2, pay_in hts (good_ws w5), List.mem_cons_self, hts _ w5, hts _ w4, w6, na_of w7, hts _ w1⟩, hts _ w2⟩ hpre rfl (by rw [List.length_map]; exact hna) hl.1 rfl (lv_room (Nat.le_trans (vlf_csz _) hcat)) hd hcap)
set_option maxHeartbeats 4000000 in
theorem qX_callSN (Mc : MI) (as : List AV) (st : List AV) {stk : List AV} {Gc : Gx} {Post' : Int → Rf → Mem → Prop} {ix na : Nat} (hd : decode M.2.1 pc = .ok (.invokestatic ix, 3)) (hc : CSN M.1.cls ix na Mc) (hR : CR M Mc) (hst : stk = as.reverse ++ st) (hna : as.length = na) (hcat : csz st ≤ 8) (hcap : kc.1 + Mc.2.2.2.2.cells ≤ M.2.2.2.2.cells ∧ kc.2 + Mc.2.2.2.2.slots ≤ M.2.2.2.2.slots) (hE : qE Mc Gc G as ρ μ Post') (hG : G.2.length ≤ Gc.2.length)
    (kk : ∀ (z : Int) (ρ' : Rf) (μ' : Mem), Post' z ρ' μ' → qXF M Fi Gc (kc.1 + Mc.2.2.2.2.cells, kc.2 + Mc.2.2.2.2.slots) (pc + 3) lv (retA Mc.2.2.2.1 z ++ st) ρ' μ') : qXF M Fi G kc pc lv stk ρ μ := by
  intro p l e s m args below meth c D cA ad A n0 φ0 Q C φ H locs ls hφ hn hM hl hkl hks hP hD hS
  subst hst
  obtain ⟨⟨host, w1⟩, w2, w4, w5, w6, w7⟩ := hc
  have hts := C.2.2.2.2.1
  have hks1 : okS G.2.length st := fun v hv => hks v (List.mem_append_right _ hv)
  have hks2 : okS G.2.length as := fun v hv => hks v (List.mem_append_left _ (List.mem_reverse.mpr hv))
  have hMet := hE hM hks2 l D cA ad φ H.size
  have hrev : (as.reverse ++ st).map (vlf φ) = (as.map (vlf φ)).reverse ++ st.map (vlf φ) := by
    rw [List.map_append, List.map_reverse]
  rw [hrev]
  have hpre : PreS s H (PcX as G ρ μ D cA ad φ H.size) (as.map (vlf φ)) := ⟨PcX_blind, fun U hU hW => CR_pre C hφ hP hD hS U hU hW⟩
  have hnest : va_Nw (.methodLinkNest M.1.cls ix Mc.1 host) s := C.2.2.2.2.2.1.1.1 _ w1
  refine q_after hG kk C hφ hn hl hkl hks1 hD hS (va_runSN (As := as.map (vlf φ)) (own := M.1.cls) (host := host) (n := na) ⟨C.1, C.2.1, C.2.2.1, C.2.2.2.1, hts⟩ hMet ⟨⟨⟨rfl, rfl, hR.1, hR.2, pay_in hts (good_ws w5), List.mem_cons_self⟩, hts _ w5, hts _ w4, w6, na_of w7, va_Nw.use rfl hnest⟩, hts _ w2, trivial⟩ hpre rfl (by rw [List.length_map]; exact hna) hl.1 rfl (lv_room (Nat.le_trans (vlf_csz _) hcat)) hd hcap)
set_option maxHeartbeats 4000000 in
theorem qX_callI (Mc : MI) (o : Nat) (st : List AV) {Gc : Gx} {Post' : Int → Rf → Mem → Prop} {ix : Nat} {sh : Sh} (hd : decode M.2.1 pc = .ok (.invokespecial ix, 3)) (hc : CIn M.1.cls ix Mc) (hR : CR M Mc) (ho : G.2[o]? = some sh) (hcat : csz st ≤ 8) (hcap : kc.1 + Mc.2.2.2.2.cells ≤ M.2.2.2.2.cells ∧ kc.2 + Mc.2.2.2.2.slots ≤ M.2.2.2.2.slots) (hE : qE Mc Gc G [qP o] ρ μ Post') (hG : G.2.length ≤ Gc.2.length)
    (kk : ∀ (z : Int) (ρ' : Rf) (μ' : Mem), Post' z ρ' μ' → qXF M Fi Gc (kc.1 + Mc.2.2.2.2.cells, kc.2 + Mc.2.2.2.2.slots) (pc + 3) lv st ρ' μ') : qXF M Fi G kc pc lv (qP o :: st) ρ μ := by
  intro p l e s m args below meth c D cA ad A n0 φ0 Q C φ H locs ls hφ hn hM hl hkl hks hP hD hS
  obtain ⟨w1, wi, w2, w4, w5, w6, w7, wk⟩ := hc
  have hts := C.2.2.2.2.1
  have hks1 : okS G.2.length st := okS_t hks
  have hks2 : okS G.2.length [qP o] := okS_c (okS_h hks) okS_0
  have hMet := hE hM hks2 l D cA ad φ H.size
  show W _ _ _ _ _ _ _ _ _ _ _ _ _ _ _ (F0 m pc ls (vlf φ (qP o) :: st.map (vlf φ)))
  rw [vlf_P hM ho]
  have hpre : PreS s H (PcX [qP o] G ρ μ D cA ad φ H.size) [.ref (φ o)] := ⟨PcX_blind, fun U hU hW => by
    have h1 := CR_pre (as := [qP o]) C hφ hP hD hS U hU hW
    rw [List.map_cons, vlf_P hM ho] at h1
    exact h1⟩
  refine q_after (Mc := Mc) hG (fun z ρ' μ' hz => by rw [wk]; exact kk z ρ' μ' hz) C hφ hn hl hkl hks1 hD hS (va_runI (As := []) (own := M.1.cls) (n := 0) (ws := qws Mc) ⟨C.1, C.2.1, C.2.2.1, C.2.2.2.1, hts⟩ hMet ⟨⟨rfl, rfl, hR.1, hR.2, pay_in hts (by unfold qws; rw [wk]; exact good_ws w5), by unfold qws; rw [wk]; exact List.mem_cons_self, hts _ w5, hts _ w4, w6, na_of w7, hts _ w1⟩, wi, hts _ w2⟩ hpre rfl rfl hl.1 rfl (lv_room (Nat.le_trans (vlf_csz _) hcat)) hd hcap)
set_option maxHeartbeats 4000000 in
theorem qX_callIN (Mc : MI) (o : Nat) (st : List AV) {Gc : Gx} {Post' : Int → Rf → Mem → Prop} {ix : Nat} {sh : Sh} (hd : decode M.2.1 pc = .ok (.invokespecial ix, 3)) (hc : CNN M.1.cls ix Mc) (hR : CR M Mc) (ho : G.2[o]? = some sh) (hcat : csz st ≤ 8) (hcap : kc.1 + Mc.2.2.2.2.cells ≤ M.2.2.2.2.cells ∧ kc.2 + Mc.2.2.2.2.slots ≤ M.2.2.2.2.slots) (hE : qE Mc Gc G [qP o] ρ μ Post') (hG : G.2.length ≤ Gc.2.length)
    (kk : ∀ (z : Int) (ρ' : Rf) (μ' : Mem), Post' z ρ' μ' → qXF M Fi Gc (kc.1 + Mc.2.2.2.2.cells, kc.2 + Mc.2.2.2.2.slots) (pc + 3) lv st ρ' μ') : qXF M Fi G kc pc lv (qP o :: st) ρ μ := by
  intro p l e s m args below meth c D cA ad A n0 φ0 Q C φ H locs ls hφ hn hM hl hkl hks hP hD hS
  obtain ⟨⟨host, w1⟩, wi, w2, w4, w5, w6, w7, wk⟩ := hc
  have hts := C.2.2.2.2.1
  have hks1 : okS G.2.length st := okS_t hks
  have hks2 : okS G.2.length [qP o] := okS_c (okS_h hks) okS_0
  have hMet := hE hM hks2 l D cA ad φ H.size
  show W _ _ _ _ _ _ _ _ _ _ _ _ _ _ _ (F0 m pc ls (vlf φ (qP o) :: st.map (vlf φ)))
  rw [vlf_P hM ho]
  have hpre : PreS s H (PcX [qP o] G ρ μ D cA ad φ H.size) [.ref (φ o)] := ⟨PcX_blind, fun U hU hW => by
    have h1 := CR_pre (as := [qP o]) C hφ hP hD hS U hU hW
    rw [List.map_cons, vlf_P hM ho] at h1
    exact h1⟩
  have hnest : va_Nw (.methodLinkNest M.1.cls ix Mc.1 host) s := C.2.2.2.2.2.1.1.1 _ w1
  refine q_after (Mc := Mc) hG (fun z ρ' μ' hz => by rw [wk]; exact kk z ρ' μ' hz) C hφ hn hl hkl hks1 hD hS (va_runIN (As := []) (own := M.1.cls) (host := host) (n := 0) (ws := qws Mc) ⟨C.1, C.2.1, C.2.2.1, C.2.2.2.1, hts⟩ hMet ⟨⟨⟨rfl, rfl, hR.1, hR.2, pay_in hts (by unfold qws; rw [wk]; exact good_ws w5), by unfold qws; rw [wk]; exact List.mem_cons_self⟩, hts _ w5, hts _ w4, w6, na_of w7, va_Nw.use rfl hnest⟩, wi, hts _ w2⟩ hpre rfl rfl hl.1 rfl (lv_room (Nat.le_trans (vlf_csz _) hcat)) hd hcap)
end QCALL
