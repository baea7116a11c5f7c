/-! ===== helpers of the generated rows ===== -/
def i32b (z : Int) : Bool := decide (-2147483648 ≤ z) && decide (z ≤ 2147483647)
def i64b (z : Int) : Bool := decide (-9223372036854775808 ≤ z) && decide (z ≤ 9223372036854775807)
theorem i32_of {z : Int} (h : i32b z = true) : i32 z := by
  unfold i32b at h
  simp only [Bool.and_eq_true, decide_eq_true_eq] at h
  exact h
theorem i64_of {z : Int} (h : i64b z = true) : i64 z := by
  unfold i64b at h
  simp only [Bool.and_eq_true, decide_eq_true_eq] at h
  exact h
theorem cmpL_eq0 {a b : Int} : cmpL a b = 0 ↔ a = b := by
  unfold cmpL
  split
  · constructor
    · intro h; cases h
    · intro h; omega
  · split
    · constructor
      · intro _; assumption
      · intro _; rfl
    · constructor
      · intro h; cases h
      · intro h; contradiction
theorem shL {o : Nat} {sh : Sh} (h : GG.2[o]? = some sh) : o < GG.2.length := (List.getElem?_eq_some_iff.mp h).1
theorem shB {o : Nat} {sh : Sh} (h : GG.2[o]? = some sh) : o < GG.2.length ∨ o = nid := Or.inl (shL h)
def r8b (z : Int) : Bool := decide (-128 ≤ z) && decide (z ≤ 127)
def r16b (z : Int) : Bool := decide (-32768 ≤ z) && decide (z ≤ 32767)
theorem ofInt8_32 {z : Int} (h : -128 ≤ z ∧ z ≤ 127) : (Int8.ofInt z).toInt32 = Int32.ofInt z := by
  apply Int32.toInt_inj.mp
  rw [Int8.toInt_toInt32, Int8.toInt_ofInt, toInt_ofInt32, w32_id (by unfold i32; omega), show Int8.size = 256 from rfl]
  unfold Int.bmod
  dsimp only
  split <;> omega
theorem ofInt16_32 {z : Int} (h : -32768 ≤ z ∧ z ≤ 32767) : (Int16.ofInt z).toInt32 = Int32.ofInt z := by
  apply Int32.toInt_inj.mp
  rw [Int16.toInt_toInt32, Int16.toInt_ofInt, toInt_ofInt32, w32_id (by unfold i32; omega), show Int16.size = 65536 from rfl]
  unfold Int.bmod
  dsimp only
  split <;> omega
section QH
variable {M : MI} {G : Gx} {Fi : Gx → Int → Rf → Mem → Prop} {kc : Nat × Nat} {pc : Nat} {lv : List (Option AV)} {st : List AV} {ρ : Rf} {μ : Mem}
theorem qX_bip {n : Int} (hd : decode M.2.1 pc = .ok (.bipush n, 2)) (hb : r8b n = true) (h : qXF M Fi G kc (pc + 2) lv (qI n :: st) ρ μ) : qXF M Fi G kc pc lv st ρ μ := by
  unfold r8b at hb
  simp only [Bool.and_eq_true, decide_eq_true_eq] at hb
  exact qX_bipush hd (by unfold i32; omega) (ofInt8_32 hb) h
theorem qX_sip {n : Int} (hd : decode M.2.1 pc = .ok (.sipush n, 3)) (hb : r16b n = true) (h : qXF M Fi G kc (pc + 3) lv (qI n :: st) ρ μ) : qXF M Fi G kc pc lv st ρ μ := by
  unfold r16b at hb
  simp only [Bool.and_eq_true, decide_eq_true_eq] at hb
  exact qX_sipush hd (by unfold i32; omega) (ofInt16_32 hb) h
theorem qX_tswN {dflt lo hi : Int} {offs : Array Int} {len : Nat} {a : Int} (tgt : Nat) (hd : decode M.2.1 pc = .ok (.tableswitch dflt lo hi offs, len)) (ht : (pc : Int) + dflt = (tgt : Int)) (h1 : (a < lo ∨ hi < a) → qXF M Fi G kc tgt lv st ρ μ)
    (h2 : ∀ j : Nat, j < (hi - lo + 1).toNat → a = lo + j → ∃ (t : Nat) (off : Int), offs[j]? = some off ∧ (pc : Int) + off = (t : Int) ∧ qXF M Fi G kc t lv st ρ μ) : qXF M Fi G kc pc lv (qI a :: st) ρ μ := by
  by_cases hc : a < lo ∨ hi < a
  · exact qX_tswd tgt hd hc ht (h1 hc)
  · obtain ⟨t, off, e1, e2, e3⟩ := h2 (a - lo).toNat (by omega) (by omega)
    exact qX_tsw t hd (by omega) (by omega) e1 e2 e3
end QH
section QN
variable {M : MI} {Fi : Gx → Int → Rf → Mem → Prop} {pc : Nat} {lv : List (Option AV)} {ρ : Rf} {μ : Mem}
theorem qN_callV (Mc : MI) (as : List AV) (o ci : Nat) (st : List AV) {stk : List AV} {Post' : Int → Rf → Mem → Prop} {ix na n : Nat} (hd : decode M.2.1 pc = .ok (.invokevirtual ix, 3)) (hc : CM M.1.cls ix ci na Mc) (hR : CR M Mc) (hst : stk = as.reverse ++ qP o :: st) (hna : as.length = na) (ho : GG.2[o]? = some (ci, n)) (hcat : csz st ≤ 8) (hz : Mc.2.2.2.2.cells = 0 ∧ Mc.2.2.2.2.slots = 0) (hE : qE Mc GG GG (qP o :: as) ρ μ Post')
    (kk : ∀ (z : Int) (ρ' : Rf) (μ' : Mem), Post' z ρ' μ' → qXF M Fi GG (0, 0) (pc + 3) lv (retA Mc.2.2.2.1 z ++ st) ρ' μ') : qXF M Fi GG (0, 0) pc lv stk ρ μ := by
  refine qX_callV Mc as o ci st hd hc hR hst hna ho hcat ?_ hE (Nat.le_refl _) ?_
  · rw [hz.1, hz.2]; exact ⟨Nat.zero_le _, Nat.zero_le _⟩
  · rw [hz.1, hz.2]; exact kk
theorem qN_callS (Mc : MI) (as : List AV) (st : List AV) {stk : List AV} {Post' : Int → Rf → Mem → Prop} {ix na : Nat} (hd : decode M.2.1 pc = .ok (.invokestatic ix, 3)) (hc : CSt M.1.cls ix na Mc) (hR : CR M Mc) (hst : stk = as.reverse ++ st) (hna : as.length = na) (hcat : csz st ≤ 8) (hz : Mc.2.2.2.2.cells = 0 ∧ Mc.2.2.2.2.slots = 0) (hE : qE Mc GG GG as ρ μ Post')
    (kk : ∀ (z : Int) (ρ' : Rf) (μ' : Mem), Post' z ρ' μ' → qXF M Fi GG (0, 0) (pc + 3) lv (retA Mc.2.2.2.1 z ++ st) ρ' μ') : qXF M Fi GG (0, 0) pc lv stk ρ μ := by
  refine qX_callS Mc as st hd hc hR hst hna hcat ?_ hE (Nat.le_refl _) ?_
  · rw [hz.1, hz.2]; exact ⟨Nat.zero_le _, Nat.zero_le _⟩
  · rw [hz.1, hz.2]; exact kk
theorem qN_callSN (Mc : MI) (as : List AV) (st : List AV) {stk : List AV} {Post' : Int → Rf → Mem → Prop} {ix na : Nat} (hd : decode M.2.1 pc = .ok (.invokestatic ix, 3)) (hc : CSN M.1.cls ix na Mc) (hR : CR M Mc) (hst : stk = as.reverse ++ st) (hna : as.length = na) (hcat : csz st ≤ 8) (hz : Mc.2.2.2.2.cells = 0 ∧ Mc.2.2.2.2.slots = 0) (hE : qE Mc GG GG as ρ μ Post')
    (kk : ∀ (z : Int) (ρ' : Rf) (μ' : Mem), Post' z ρ' μ' → qXF M Fi GG (0, 0) (pc + 3) lv (retA Mc.2.2.2.1 z ++ st) ρ' μ') : qXF M Fi GG (0, 0) pc lv stk ρ μ := by
  refine qX_callSN Mc as st hd hc hR hst hna hcat ?_ hE (Nat.le_refl _) ?_
  · rw [hz.1, hz.2]; exact ⟨Nat.zero_le _, Nat.zero_le _⟩
  · rw [hz.1, hz.2]; exact kk
end QN
theorem qE_pre {M : MI} {Gf G : Gx} {as : List AV} {ρ : Rf} {μ : Mem} {Post : Int → Rf → Mem → Prop} (h : MOk G ρ μ → okS G.2.length as → qE M Gf G as ρ μ Post) : qE M Gf G as ρ μ Post := fun h1 h2 => h h1 h2 h1 h2
