/-! ===== an abstract machine over the kit's rows: ints and longs are Int, cells are numbered by their making ===== -/
abbrev AV : Type := Int ⊕ (Int ⊕ Nat)
abbrev qI (z : Int) : AV := .inl z
abbrev qJ (z : Int) : AV := .inr (.inl z)
abbrev qP (i : Nat) : AV := .inr (.inr i)
abbrev Mem : Type := Nat → Int → Int
abbrev Rf : Type := Nat → Int → Nat
abbrev Sh : Type := Nat × Nat
abbrev Gx : Type := Bool × List Sh
def nid : Nat := 1000000
/-- the script's place among the numbers of cells: its address is what the placing says there -/
def sid : Nat := 1000001
/-- the Unsafe object's place -/
def uid : Nat := 1000002
def Agr (n : Nat) (f g : Nat → Nat) : Prop := ∀ i, i < n ∨ nid < i → f i = g i
abbrev AdT : Type := Nat × Nat × Nat × (Nat → Int32)
def rlf (φ : Nat → Nat) (i : Nat) : Option Nat := if i = nid then none else some (φ i)
def vlf (φ : Nat → Nat) : AV → Value
  | .inl z => .int (Int32.ofInt z)
  | .inr (.inl z) => .long (Int64.ofInt z)
  | .inr (.inr i) => va_rf (rlf φ i)
def i32 (z : Int) : Prop := -2147483648 ≤ z ∧ z ≤ 2147483647
def i64 (z : Int) : Prop := -9223372036854775808 ≤ z ∧ z ≤ 9223372036854775807
def w32 (z : Int) : Int := (z + 2147483648) % 4294967296 - 2147483648
def w64 (z : Int) : Int := (z + 9223372036854775808) % 18446744073709551616 - 9223372036854775808
def avOk (n : Nat) : AV → Prop
  | .inl z => i32 z
  | .inr (.inl z) => i64 z
  | .inr (.inr i) => i < n ∨ nid ≤ i
def up2 {α : Type} (f : Nat → Int → α) (o : Nat) (k : Int) (v : α) : Nat → Int → α := fun a b => if a = o ∧ b = k then v else f a b
theorem up2_s {α : Type} {f : Nat → Int → α} {o : Nat} {k : Int} {v : α} : up2 f o k v o k = v := by simp [up2]
theorem up2_n {α : Type} {f : Nat → Int → α} {o a : Nat} {k b : Int} {v : α} (h : ¬ (a = o ∧ b = k)) : up2 f o k v a b = f a b := by simp only [up2, if_neg h]
/-! ### numbers -/
theorem w32_bmod (z : Int) : z.bmod 4294967296 = w32 z := by
  unfold Int.bmod w32
  dsimp only
  split <;> omega
theorem w64_bmod (z : Int) : z.bmod 18446744073709551616 = w64 z := by
  unfold Int.bmod w64
  dsimp only
  split <;> omega
theorem i32_w32 (z : Int) : i32 (w32 z) := by unfold i32 w32; omega
theorem i64_w64 (z : Int) : i64 (w64 z) := by unfold i64 w64; omega
theorem w32_id {z : Int} (h : i32 z) : w32 z = z := by unfold i32 at h; unfold w32; omega
theorem w64_id {z : Int} (h : i64 z) : w64 z = z := by unfold i64 at h; unfold w64; omega
theorem toInt_ofInt32 (z : Int) : (Int32.ofInt z).toInt = w32 z := by rw [Int32.toInt_ofInt]; exact w32_bmod z
theorem toInt_ofInt64 (z : Int) : (Int64.ofInt z).toInt = w64 z := by rw [Int64.toInt_ofInt]; exact w64_bmod z
theorem toInt_i32 {z : Int} (h : i32 z) : (Int32.ofInt z).toInt = z := by rw [toInt_ofInt32, w32_id h]
theorem toInt_i64 {z : Int} (h : i64 z) : (Int64.ofInt z).toInt = z := by rw [toInt_ofInt64, w64_id h]
theorem w32_w32 (z : Int) : w32 (w32 z) = w32 z := w32_id (i32_w32 z)
theorem w64_w64 (z : Int) : w64 (w64 z) = w64 z := w64_id (i64_w64 z)
theorem ofInt_w32 (z : Int) : Int32.ofInt (w32 z) = Int32.ofInt z := Int32.toInt_inj.mp (by rw [toInt_ofInt32, toInt_ofInt32, w32_w32])
theorem ofInt_w64 (z : Int) : Int64.ofInt (w64 z) = Int64.ofInt z := Int64.toInt_inj.mp (by rw [toInt_ofInt64, toInt_ofInt64, w64_w64])
theorem i32_toInt (x : Int32) : i32 x.toInt := by
  have h := Int32.le_toInt x
  have h2 := Int32.toInt_lt x
  unfold i32
  omega
theorem i64_toInt (x : Int64) : i64 x.toInt := by
  have h := Int64.le_toInt x
  have h2 := Int64.toInt_lt x
  unfold i64
  omega
theorem eq_ofInt32 {x : Int32} {z : Int} (h : x.toInt = w32 z) : x = Int32.ofInt z := Int32.toInt_inj.mp (by rw [h, toInt_ofInt32])
theorem eq_ofInt64 {x : Int64} {z : Int} (h : x.toInt = w64 z) : x = Int64.ofInt z := Int64.toInt_inj.mp (by rw [h, toInt_ofInt64])
theorem q_add (a b : Int) : Int32.ofInt a + Int32.ofInt b = Int32.ofInt (w32 (a + b)) := by rw [ofInt_w32, Int32.ofInt_add]
theorem q_sub (a b : Int) : Int32.ofInt a - Int32.ofInt b = Int32.ofInt (w32 (a - b)) := by rw [ofInt_w32, Int32.ofInt_sub]
theorem q_mul (a b : Int) : Int32.ofInt a * Int32.ofInt b = Int32.ofInt (w32 (a * b)) := by rw [ofInt_w32, Int32.ofInt_mul]
theorem q_addL (a b : Int) : Int64.ofInt a + Int64.ofInt b = Int64.ofInt (w64 (a + b)) := by rw [ofInt_w64, Int64.ofInt_add]
theorem q_subL (a b : Int) : Int64.ofInt a - Int64.ofInt b = Int64.ofInt (w64 (a - b)) := by rw [ofInt_w64, Int64.ofInt_sub]
theorem q_mulL (a b : Int) : Int64.ofInt a * Int64.ofInt b = Int64.ofInt (w64 (a * b)) := by rw [ofInt_w64, Int64.ofInt_mul]
theorem q_div {a b : Int} (ha : i32 a) (hb : i32 b) : Int32.ofInt a / Int32.ofInt b = Int32.ofInt (w32 (a.tdiv b)) := by
  apply Int32.toInt_inj.mp
  rw [Int32.toInt_div, toInt_i32 ha, toInt_i32 hb, toInt_ofInt32, w32_w32]
  exact w32_bmod _
theorem q_rem {a b : Int} (ha : i32 a) (hb : i32 b) : Int32.ofInt a - Int32.ofInt a / Int32.ofInt b * Int32.ofInt b = Int32.ofInt (w32 (a.tmod b)) := by
  rw [q_div ha hb, q_mul, q_sub]
  apply Int32.toInt_inj.mp
  rw [toInt_ofInt32, toInt_ofInt32, w32_w32, w32_w32]
  have e := Int.tmod_def a b
  rw [e]
  have h1 : ∀ x y : Int, w32 (x - w32 y) = w32 (x - y) := fun x y => by unfold w32; omega
  have h2 : ∀ x y : Int, w32 (w32 x * y) = w32 (x * y) := fun x y => by
    have : Int32.ofInt (w32 x * y) = Int32.ofInt (x * y) := by rw [Int32.ofInt_mul, Int32.ofInt_mul, ofInt_w32]
    have h := congrArg Int32.toInt this
    rwa [toInt_ofInt32, toInt_ofInt32] at h
  rw [h1, ← h1 a (w32 (a.tdiv b) * b), h2, h1, Int.mul_comm]
theorem q_lt {a b : Int} (ha : i32 a) (hb : i32 b) : Int32.ofInt a < Int32.ofInt b ↔ a < b := by rw [Int32.lt_iff_toInt_lt, toInt_i32 ha, toInt_i32 hb]
theorem q_le {a b : Int} (ha : i32 a) (hb : i32 b) : Int32.ofInt a ≤ Int32.ofInt b ↔ a ≤ b := by rw [Int32.le_iff_toInt_le, toInt_i32 ha, toInt_i32 hb]
theorem q_eq {a b : Int} (ha : i32 a) (hb : i32 b) : Int32.ofInt a = Int32.ofInt b ↔ a = b := by rw [← Int32.toInt_inj, toInt_i32 ha, toInt_i32 hb]
theorem q_ltL {a b : Int} (ha : i64 a) (hb : i64 b) : Int64.ofInt a < Int64.ofInt b ↔ a < b := by rw [Int64.lt_iff_toInt_lt, toInt_i64 ha, toInt_i64 hb]
theorem q_eqL {a b : Int} (ha : i64 a) (hb : i64 b) : Int64.ofInt a = Int64.ofInt b ↔ a = b := by rw [← Int64.toInt_inj, toInt_i64 ha, toInt_i64 hb]
theorem i32_0 : i32 0 := by unfold i32; omega
theorem q_in {i : Int} {n : Nat} (hi : i32 i) (h : 0 ≤ i ∧ i < (n : Int)) : vp_in (Int32.ofInt i) n := vp_in_iff.mpr (by rw [toInt_i32 hi]; exact h)
theorem q_cl {i : Int} (hi : i32 i) (h : 0 ≤ i) : ((Int32.ofInt i).toNatClampNeg : Int) = i := by
  have h1 : (Int32.ofInt i).toNatClampNeg = (Int32.ofInt i).toInt.toNat := rfl
  rw [h1, toInt_i32 hi]
  omega
/-! ### cells -/
/-- the kinds of a class's fields: 0 int, 1 long, 2 a reference -/
def fks : Nat → List Nat := fun c => match c with
  | 0 => [2, 2, 2, 2, 2, 2, 2, 2, 2, 2, 2, 2, 2, 2, 2, 0, 0, 0]
  | 1 => [2, 0]
  | 2 => [2, 2, 0, 0, 0, 2, 2, 0, 0, 0, 0, 0, 1]
  | 3 => [2, 2, 2, 2, 2, 2, 2, 2, 2, 0, 2, 2, 2, 2]
  | 4 => [2, 2, 2, 0, 0]
  | 5 => [2, 2, 0, 0, 0, 2, 2, 2, 2, 2, 2, 2]
  | 6 => [2, 2, 2, 2, 2, 2, 0]
  | 7 => [2, 2, 2, 2, 2, 2, 2, 2, 2, 2, 0, 0, 0]
  | _ => []
/-- fields that hold for ever the cell so many places behind the object -/
def sto : Nat → Nat → Option Nat := fun c k => match c, k with
  | 0, 0 => some 0
  | 0, 1 => some 1
  | 0, 2 => some 2
  | 0, 3 => some 3
  | 0, 4 => some 4
  | 0, 5 => some 5
  | 0, 6 => some 6
  | 0, 7 => some 7
  | 0, 8 => some 8
  | 0, 9 => some 9
  | 0, 10 => some 10
  | 0, 11 => some 11
  | 0, 12 => some 12
  | 0, 13 => some 13
  | 0, 14 => some 14
  | 1, 0 => some 0
  | 2, 0 => some 0
  | 2, 1 => some 1
  | 3, 0 => some 0
  | 3, 1 => some 1
  | 3, 2 => some 2
  | 3, 3 => some 3
  | 3, 4 => some 4
  | 3, 5 => some 5
  | 3, 6 => some 6
  | 3, 7 => some 7
  | 3, 8 => some 8
  | 3, 10 => some 9
  | 3, 11 => some 10
  | 3, 12 => some 11
  | 3, 13 => some 12
  | 4, 0 => some 0
  | 4, 1 => some 1
  | 4, 2 => some 2
  | 5, 0 => some 0
  | 5, 1 => some 1
  | 5, 5 => some 2
  | 5, 6 => some 3
  | 5, 7 => some 4
  | 5, 8 => some 5
  | 5, 9 => some 6
  | 5, 10 => some 7
  | 5, 11 => some 8
  | 6, 0 => some 0
  | 6, 1 => some 1
  | 6, 2 => some 2
  | 6, 3 => some 3
  | 6, 4 => some 4
  | 6, 5 => some 5
  | 7, 0 => some 0
  | 7, 1 => some 26
  | 7, 2 => some 40
  | 7, 3 => some 54
  | 7, 4 => some 61
  | 7, 5 => some 68
  | 7, 6 => some 140
  | 7, 7 => some 150
  | _, _ => none
def fldV (φ : Nat → Nat) (t : Nat) (r : Nat) (z : Int) : Value := match t with
  | 0 => .int (Int32.ofInt z)
  | 1 => .long (Int64.ofInt z)
  | 2 => va_rf (rlf φ r)
  | _ => .null
def cellE (φ : Nat → Nat) (cA : Nat → ClassId) (sh : Sh) (r : Int → Nat) (f : Int → Int) : va_E := match sh.1 with
  | 10 => .inl (cA 0, sh.2, .inl fun j => Int32.ofInt (f j))
  | 11 => .inl (cA 1, sh.2, .inr (.inl fun j => Int64.ofInt (f j)))
  | 12 => .inl (cA 2, sh.2, .inl fun j => Int32.ofInt (f j))
  | 13 => .inl (cA 3, sh.2, .inl fun j => Int32.ofInt (f j))
  | 14 => .inl (cA 4, sh.2, .inr (.inr (.inr (.inr fun j => rlf φ (r j)))))
  | k => .inr (k, (List.range (fks k).length).map fun j => fldV φ ((fks k).getD j 0) (r j) (f j))
def tyOf (sh : Sh) (k : Nat) : Nat := match sh.1 with
  | 10 => 0 | 11 => 1 | 12 => 0 | 13 => 0 | 14 => 2
  | c => (fks c).getD k 0
abbrev tysOf (cA : Nat → ClassId) : List (ClassId × FieldType) := [(cA 0, .int), (cA 1, .long), (cA 2, .byte), (cA 3, .boolean), (cA 4, .object RX6)]
def wsOf (φ : Nat → Nat) (cA : Nat → ClassId) (shs : List Sh) (ρ : Rf) (μ : Mem) : va_W := (List.range shs.length).map fun o => (φ o, cellE φ cA (shs.getD o (0, 0)) (ρ o) (μ o))
def Lay (shs : List Sh) (ρ : Rf) : Prop := ∀ (o : Nat) (sh : Sh), shs[o]? = some sh → ∀ (k off : Nat), sto sh.1 k = some off → ρ o k = o + 1 + off
def slOk (n : Nat) (sh : Sh) (r : Int → Nat) (f : Int → Int) : Prop := ∀ k : Nat, (tyOf sh k = 0 → i32 (f k)) ∧ (tyOf sh k = 1 → i64 (f k)) ∧ (tyOf sh k = 2 → r k < n ∨ r k = nid)
def MOk (G : Gx) (ρ : Rf) (μ : Mem) : Prop := G.2.length < nid ∧ (∀ (o : Nat) (sh : Sh), G.2[o]? = some sh → slOk G.2.length sh (ρ o) (μ o)) ∧ (G.1 = true → Lay G.2 ρ) ∧ ∀ o : Nat, G.2.length ≤ o → ∀ k : Int, ρ o k = nid ∧ μ o k = 0
theorem wsOf_get {φ : Nat → Nat} {cA : Nat → ClassId} {shs : List Sh} {ρ : Rf} {μ : Mem} {o : Nat} {sh : Sh} (h : shs[o]? = some sh) : (wsOf φ cA shs ρ μ)[o]? = some (φ o, cellE φ cA sh (ρ o) (μ o)) := by
  have hl : o < shs.length := (List.getElem?_eq_some_iff.mp h).1
  unfold wsOf
  rw [List.getElem?_map, List.getElem?_range hl]
  simp [List.getD_eq_getElem?_getD, h]
theorem wsOf_len {φ : Nat → Nat} {cA : Nat → ClassId} {shs : List Sh} {ρ : Rf} {μ : Mem} : (wsOf φ cA shs ρ μ).length = shs.length := by simp [wsOf]
theorem wsOf_at {φ : Nat → Nat} {cA : Nat → ClassId} {shs : List Sh} {ρ : Rf} {μ : Mem} {k : Nat} {q : Nat × va_E} (h : (wsOf φ cA shs ρ μ)[k]? = some q) : k < shs.length ∧ q = (φ k, cellE φ cA (shs.getD k (0, 0)) (ρ k) (μ k)) := by
  have hl : k < (wsOf φ cA shs ρ μ).length := (List.getElem?_eq_some_iff.mp h).1
  rw [wsOf_len] at hl
  refine ⟨hl, ?_⟩
  unfold wsOf at h
  rw [List.getElem?_map, List.getElem?_range hl] at h
  exact (Option.some.inj h).symm
theorem wsOf_set {φ : Nat → Nat} {cA : Nat → ClassId} {shs : List Sh} {ρ ρ' : Rf} {μ μ' : Mem} {o : Nat} {sh : Sh} {a : Nat} {e : va_E} (h : shs[o]? = some sh) (ha : φ o = a) (he : e = cellE φ cA sh (ρ' o) (μ' o)) (hr : ∀ x, x ≠ o → ρ' x = ρ x) (hm : ∀ x, x ≠ o → μ' x = μ x) : (wsOf φ cA shs ρ μ).set o (a, e) = wsOf φ cA shs ρ' μ' := by
  subst ha
  apply List.ext_getElem?
  intro k
  have hl : o < shs.length := (List.getElem?_eq_some_iff.mp h).1
  by_cases hk : k = o
  · subst hk
    rw [List.getElem?_set_self (by rw [wsOf_len]; exact hl), wsOf_get h, he]
  · rw [List.getElem?_set_ne (Ne.symm hk)]
    by_cases hkl : k < shs.length
    · have h1 : shs[k]? = some shs[k] := List.getElem?_eq_getElem hkl
      rw [wsOf_get h1, wsOf_get h1, hr k hk, hm k hk]
    · rw [List.getElem?_eq_none (by rw [wsOf_len]; omega), List.getElem?_eq_none (by rw [wsOf_len]; omega)]
theorem rlf_ext {φ φ' : Nat → Nat} {n i : Nat} (h : i < n ∨ i = nid) (hφ : ∀ i, i < n → φ' i = φ i) : rlf φ' i = rlf φ i := by
  unfold rlf
  rcases h with h | h
  · rw [hφ i h]
  · rw [if_pos h, if_pos h]
theorem vlf_ext {φ φ' : Nat → Nat} {n : Nat} {v : AV} (h : avOk n v) (hφ : Agr n φ' φ) : vlf φ' v = vlf φ v := by
  rcases v with z | z | i
  · rfl
  · rfl
  · have h : i < n ∨ nid ≤ i := h
    refine congrArg va_rf ?_
    unfold rlf
    by_cases e : i = nid
    · rw [if_pos e, if_pos e]
    · rw [if_neg e, if_neg e, hφ i (by omega)]
theorem avOk_mono {n n' : Nat} {v : AV} (h : avOk n v) (hn : n ≤ n') : avOk n' v := by
  rcases v with z | z | i
  · exact h
  · exact h
  · rcases h with h | h
    · exact Or.inl (Nat.lt_of_lt_of_le h hn)
    · exact Or.inr h
theorem rlf_lt {φ : Nat → Nat} {i n : Nat} (h : i < n) (hn : n < nid) : rlf φ i = some (φ i) := by
  unfold rlf
  rw [if_neg (by omega)]
theorem vlf_P {φ : Nat → Nat} {G : Gx} {ρ : Rf} {μ : Mem} {o : Nat} {sh : Sh} (hM : MOk G ρ μ) (h : G.2[o]? = some sh) : vlf φ (qP o) = .ref (φ o) := by
  have hl : o < G.2.length := (List.getElem?_eq_some_iff.mp h).1
  show va_rf (rlf φ o) = _
  rw [rlf_lt hl hM.1]
  rfl
/-! ### locals -/
def qpr (φ : Nat → Nat) (lv : List (Option AV)) : List (Nat × Value) := (List.range lv.length).filterMap fun i => (lv.getD i none).map fun v => (i, vlf φ v)
theorem qpr_mem {φ : Nat → Nat} {lv : List (Option AV)} {q : Nat × Value} : q ∈ qpr φ lv ↔ ∃ v, lv[q.1]? = some (some v) ∧ q.2 = vlf φ v := by
  unfold qpr
  constructor
  · intro h
    obtain ⟨i, hi, h2⟩ := List.mem_filterMap.mp h
    obtain ⟨v, hv, rfl⟩ := Option.map_eq_some_iff.mp h2
    rw [List.getD_eq_getElem?_getD] at hv
    refine ⟨v, ?_, rfl⟩
    cases hx : lv[i]? with
    | none => rw [hx] at hv; cases hv
    | some w => rw [hx] at hv; exact congrArg some hv
  · rintro ⟨v, h1, h2⟩
    have hl : q.1 < lv.length := (List.getElem?_eq_some_iff.mp h1).1
    refine List.mem_filterMap.mpr ⟨q.1, List.mem_range.mpr hl, ?_⟩
    rw [List.getD_eq_getElem?_getD, h1]
    show some (q.1, vlf φ v) = some q
    rw [← h2]
def qlv (φ : Nat → Nat) (ls : Array Slot) (n : Nat) (lv : List (Option AV)) : Prop := lv_has ls n (qpr φ lv)
theorem qlv_at {φ : Nat → Nat} {ls : Array Slot} {n : Nat} {lv : List (Option AV)} {i : Nat} {v : AV} (h : qlv φ ls n lv) (hi : lv[i]? = some (some v)) : ls[i]? = some (.val (vlf φ v)) := h.2.2 (i, vlf φ v) (qpr_mem.mpr ⟨v, hi, rfl⟩)
def qnoL (lv : List (Option AV)) (i : Nat) : Bool := match i with
  | 0 => true
  | j + 1 => match lv[j]? with
    | some (some (.inr (.inl _))) => false
    | _ => true
theorem vlf_cat2 {φ : Nat → Nat} {v : AV} (h : (vlf φ v).category = 2) : ∃ z, v = qJ z := by
  rcases v with z | z | i
  · cases h
  · exact ⟨z, rfl⟩
  · exfalso
    revert h
    show (va_rf (rlf φ i)).category = 2 → False
    cases rlf φ i <;> (intro h; cases h)
theorem qlv_set {φ : Nat → Nat} {ls' : Array Slot} {n : Nat} {lv : List (Option AV)} {i : Nat} {v : AV} {x : Value} (hx : vlf φ v = x) (hL : qnoL lv i = true) (h : lv_has ls' n ((i, x) :: (qpr φ lv).filter (fun q => !(q.1 == i) && !(q.1 + 1 == i && q.2.category == 2)))) : qlv φ ls' n (lv.set i (some v)) := by
  refine ⟨h.1, h.2.1, fun q hq => ?_⟩
  obtain ⟨w, h1, h2⟩ := qpr_mem.mp hq
  by_cases hqi : q.1 = i
  · have hl : i < lv.length := by
      have := (List.getElem?_eq_some_iff.mp h1).1
      rw [List.length_set] at this
      omega
    rw [hqi, List.getElem?_set_self hl] at h1
    cases h1
    have : q = (i, x) := by rw [← hx, ← h2, ← hqi]
    rw [this]
    exact h.2.2 (i, x) List.mem_cons_self
  · rw [List.getElem?_set_ne (Ne.symm hqi)] at h1
    refine h.2.2 q (List.mem_cons_of_mem _ (List.mem_filter.mpr ⟨qpr_mem.mpr ⟨w, h1, h2⟩, ?_⟩))
    have e1 : (q.1 == i) = false := by simp [hqi]
    rw [e1]
    simp only [Bool.not_false, Bool.true_and, Bool.not_eq_true', Bool.and_eq_false_iff]
    by_cases hq2 : q.1 + 1 = i
    · right
      subst hq2
      by_cases hc : q.2.category = 2
      · exfalso
        rw [h2] at hc
        obtain ⟨z, rfl⟩ := vlf_cat2 hc
        simp only [qnoL, h1] at hL
        cases hL
      · simp [hc]
    · left
      simp [hq2]
theorem qlv_setL {φ : Nat → Nat} {ls' : Array Slot} {n : Nat} {lv : List (Option AV)} {i : Nat} {v : AV} {x : Value} (hx : vlf φ v = x) (hL : qnoL lv i = true) (h : lv_has ls' n ((i, x) :: (qpr φ lv).filter (fun q => !(q.1 == i) && (!(q.1 == i + 1) && !(q.1 + 1 == i && q.2.category == 2))))) : qlv φ ls' n ((lv.set i (some v)).set (i + 1) none) := by
  refine ⟨h.1, h.2.1, fun q hq => ?_⟩
  obtain ⟨w, h1, h2⟩ := qpr_mem.mp hq
  have hq1 : q.1 ≠ i + 1 := by
    intro hz
    have hl : i + 1 < (lv.set i (some v)).length := by
      have := (List.getElem?_eq_some_iff.mp h1).1
      rw [List.length_set] at this
      omega
    rw [hz, List.getElem?_set_self hl] at h1
    cases h1
  rw [List.getElem?_set_ne (Ne.symm hq1)] at h1
  by_cases hqi : q.1 = i
  · have hl : i < lv.length := by
      have := (List.getElem?_eq_some_iff.mp h1).1
      rw [List.length_set] at this
      omega
    rw [hqi, List.getElem?_set_self hl] at h1
    cases h1
    have : q = (i, x) := by rw [← hx, ← h2, ← hqi]
    rw [this]
    exact h.2.2 (i, x) List.mem_cons_self
  · rw [List.getElem?_set_ne (Ne.symm hqi)] at h1
    refine h.2.2 q (List.mem_cons_of_mem _ (List.mem_filter.mpr ⟨qpr_mem.mpr ⟨w, h1, h2⟩, ?_⟩))
    have e1 : (q.1 == i) = false := by simp [hqi]
    have e2 : (q.1 == i + 1) = false := by simp [hq1]
    rw [e1, e2]
    simp only [Bool.not_false, Bool.true_and, Bool.not_eq_true', Bool.and_eq_false_iff]
    by_cases hq2 : q.1 + 1 = i
    · right
      subst hq2
      by_cases hc : q.2.category = 2
      · exfalso
        rw [h2] at hc
        obtain ⟨z, rfl⟩ := vlf_cat2 hc
        simp only [qnoL, h1] at hL
        cases hL
      · simp [hc]
    · left
      simp [hq2]
def qmask : List Bool → List (Option AV) → List (Option AV)
  | b :: bs, x :: xs => (match b with | true => x | false => none) :: qmask bs xs
  | _, _ => []
theorem qmask_at : ∀ (bs : List Bool) (lv : List (Option AV)) (i : Nat) (v : AV), (qmask bs lv)[i]? = some (some v) → lv[i]? = some (some v)
  | [], lv, i, v, h => by simp [qmask] at h
  | b :: bs, [], i, v, h => by simp [qmask] at h
  | b :: bs, x :: xs, 0, v, h => by
    cases b
    · simp [qmask] at h
    · simpa [qmask] using h
  | b :: bs, x :: xs, i + 1, v, h => by
    simp only [qmask, List.getElem?_cons_succ] at h ⊢
    exact qmask_at bs xs i v h
theorem qlv_mask {φ : Nat → Nat} {ls : Array Slot} {n : Nat} {lv : List (Option AV)} (bs : List Bool) (h : qlv φ ls n lv) : qlv φ ls n (qmask bs lv) := by
  refine ⟨h.1, h.2.1, fun q hq => ?_⟩
  obtain ⟨v, h1, h2⟩ := qpr_mem.mp hq
  exact h.2.2 q (qpr_mem.mpr ⟨v, qmask_at bs lv _ v h1, h2⟩)
def okL (n : Nat) (lv : List (Option AV)) : Prop := ∀ v, some v ∈ lv → avOk n v
def okS (n : Nat) (st : List AV) : Prop := ∀ v, v ∈ st → avOk n v
theorem okL_at {n : Nat} {lv : List (Option AV)} {i : Nat} {v : AV} (h : okL n lv) (hi : lv[i]? = some (some v)) : avOk n v := h v (List.mem_of_getElem? hi)
theorem okL_set {n : Nat} {lv : List (Option AV)} {i : Nat} {v : AV} (h : okL n lv) (hv : avOk n v) : okL n (lv.set i (some v)) := by
  intro w hw
  rcases List.mem_or_eq_of_mem_set hw with h1 | h1
  · exact h w h1
  · cases h1; exact hv
theorem okL_setN {n : Nat} {lv : List (Option AV)} {i : Nat} (h : okL n lv) : okL n (lv.set i none) := by
  intro w hw
  rcases List.mem_or_eq_of_mem_set hw with h1 | h1
  · exact h w h1
  · cases h1
theorem okL_mask {n : Nat} {lv : List (Option AV)} (bs : List Bool) (h : okL n lv) : okL n (qmask bs lv) := by
  intro v hv
  obtain ⟨i, hi⟩ := List.getElem?_of_mem hv
  exact okL_at h (qmask_at bs lv i v hi)
theorem qlv_ext {φ φ' : Nat → Nat} {ls : Array Slot} {n m : Nat} {lv : List (Option AV)} (h : qlv φ ls n lv) (hk : okL m lv) (hφ : Agr m φ' φ) : qlv φ' ls n lv := by
  refine ⟨h.1, h.2.1, fun q hq => ?_⟩
  obtain ⟨v, h1, h2⟩ := qpr_mem.mp hq
  rw [h2, vlf_ext (okL_at hk h1) hφ]
  exact h.2.2 (q.1, vlf φ v) (qpr_mem.mpr ⟨v, h1, rfl⟩)

theorem av_r {n i : Nat} (h : i < n ∨ i = nid) : avOk n (qP i) := h.imp id (fun e => Nat.le_of_eq e.symm)
theorem vlf_nn {φ : Nat → Nat} {o : Nat} (h : o ≠ nid) : vlf φ (qP o) = .ref (φ o) := by
  show va_rf (rlf φ o) = _
  unfold rlf
  rw [if_neg h]
  rfl
