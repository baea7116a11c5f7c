/-! ===== the class's tokens in the law's text ===== -/
def TKV (b : Int → Int) (n p : Int) (k : Nat) (v q : Int) : Prop := tK b n p = k ∧ tN b n p = q ∧ (k = 1 → tW b n p = v) ∧ (k = 2 → tV b n p = v)
def lf (l : List Int) : Int → Int := fun i => l.getD i.toNat 0
def vlT (t : Tkn) : Int := if t.2.1 = 1 then wd 256 0 (lf t.2.2) 0 t.2.2.length else wd 10 48 (lf t.2.2) 0 t.2.2.length
def Toks (b : Int → Int) (n : Int) : Int → List Tkn → Prop
  | p, [] => p = n
  | p, t :: r => ∃ q, TKV b n p t.2.1 (vlT t) q ∧ Toks b n q r
def okT (t : Tkn) : Prop := (t.2.1 = 1 ∧ 1 ≤ t.2.2.length ∧ t.2.2.length ≤ 8 ∧ ∀ c ∈ t.2.2, 97 ≤ c ∧ c ≤ 122) ∨ (t.2.1 = 2 ∧ 1 ≤ t.2.2.length ∧ t.2.2.length ≤ 3 ∧ ∀ c ∈ t.2.2, 48 ≤ c ∧ c ≤ 57) ∨ t = cT
def sepT (t u : Tkn) : Bool := t.2.1 == 3 || u.1 || u.2.1 == 3
def sepH (t : Tkn) : List Tkn → Bool
  | [] => true
  | u :: _ => sepT t u
def WF : List Tkn → Prop
  | [] => True
  | t :: r => okT t ∧ sepH t r = true ∧ WF r
theorem WF_c {t : Tkn} {r : List Tkn} : WF (t :: r) ↔ okT t ∧ sepH t r = true ∧ WF r := Iff.rfl
def At (b : Int → Int) (p : Int) (l : List Int) : Prop := ∀ i : Nat, i < l.length → b (p + i) = l.getD i 0
theorem At_app {b : Int → Int} {p : Int} {l1 l2 : List Int} (h : At b p (l1 ++ l2)) : At b p l1 ∧ At b (p + l1.length) l2 := by
  refine ⟨fun i hi => ?_, fun i hi => ?_⟩
  · rw [h i (by rw [List.length_append]; omega), List.getD_eq_getElem?_getD, List.getD_eq_getElem?_getD, List.getElem?_append_left hi]
  · have e := h (l1.length + i) (by rw [List.length_append]; omega)
    rw [show p + (l1.length : Int) + (i : Int) = p + ((l1.length + i : Nat) : Int) by omega, e, List.getD_eq_getElem?_getD, List.getD_eq_getElem?_getD, List.getElem?_append_right (by omega), Nat.add_sub_cancel_left]
theorem At_mem {b : Int → Int} {p : Int} {l : List Int} (h : At b p l) {Q : Int → Prop} (hq : ∀ c ∈ l, Q c) {k : Int} (h0 : p ≤ k) (h1 : k < p + l.length) : Q (b k) := by
  have e := h (k - p).toNat (by omega)
  rw [show p + ((k - p).toNat : Int) = k by omega] at e
  rw [e, List.getD_eq_getElem?_getD, List.getElem?_eq_getElem (by omega)]
  exact hq _ (List.getElem_mem _)
section TOKS
variable {b : Int → Int} {n p : Int} {t : Tkn} {r : List Tkn}
theorem bl_at {bl : Bool} {l : List Int} (h : At b p ((if bl then [32] else []) ++ l)) (hl : 1 ≤ l.length) (hn : p + ((if bl then [32] else []) ++ l : List Int).length ≤ n) (hne : ∀ c ∈ l, c ≠ 32) : ∃ s, tS b n p = s ∧ p ≤ s ∧ s = p + (if bl then [32] else [] : List Int).length ∧ At b s l ∧ s + l.length ≤ n := by
  obtain ⟨h1, h2⟩ := At_app h
  rw [List.length_append] at hn
  refine ⟨p + (if bl then [32] else [] : List Int).length, ?_, by omega, rfl, h2, by omega⟩
  have hb : ∀ c ∈ (if bl then [32] else [] : List Int), c = 32 := by
    intro c hc
    cases bl
    · cases hc
    · exact List.mem_singleton.mp hc
  exact rn_u (P := isB) (by omega) (by omega) (fun k k0 k1 => isB_i.mpr (At_mem h1 hb k0 k1)) (fun c => At_mem h2 hne (Int.le_refl _) (by omega) (isB_i.mp c.2))
theorem lf_at {l : List Int} {s : Int} (h : At b s l) (B A : Int) : wd B A b s l.length = wd B A (lf l) 0 l.length := by
  refine wd_c l.length (fun j j0 j1 => ?_)
  have e := h j.toNat (by omega)
  rw [show s + (j.toNat : Int) = s + j by omega] at e
  rw [e]
  show _ = lf l (0 + j)
  rw [show (0 : Int) + j = j by omega]
  rfl
theorem tok_at (ht : okT t) (h : At b p (enT t)) (hn : p + (enT t).length ≤ n) (hx : p + (enT t).length < n → (isL (b (p + (enT t).length)) = true → t.2.1 = 3) ∧ (isD (b (p + (enT t).length)) = true → t.2.1 = 3 ∨ t.2.1 = 1)) : TKV b n p t.2.1 (vlT t) (p + (enT t).length) := by
  have hlen : ((enT t).length : Int) = (if t.1 then [32] else [] : List Int).length + t.2.2.length := by
    show ((((if t.1 then [32] else []) ++ t.2.2 : List Int).length : Nat) : Int) = _
    rw [List.length_append]
    omega
  rcases ht with ⟨hk, hl1, hl8, hc⟩ | ⟨hk, hl1, hl8, hc⟩ | hk
  · obtain ⟨s, e1, e2, e3, e4, e5⟩ := bl_at h hl1 hn (fun c hc' => by have := hc c hc'; omega)
    have eq : p + ((enT t).length : Int) = s + t.2.2.length := by omega
    have hs : isL (b s) = true := isL_i.mpr (At_mem e4 hc (Int.le_refl _) (by omega))
    have hr : rn isL b n s = s + t.2.2.length := rn_u (P := isL) (by omega) e5 (fun k k0 k1 => isL_i.mpr (At_mem e4 hc k0 k1)) (fun c => by rw [← eq] at c; have := (hx c.1).1 c.2; omega)
    have hN : tN b n p = s + t.2.2.length := by unfold tN; rw [e1, if_neg (by omega), if_pos hs, hr]
    refine ⟨?_, by rw [hN, eq], fun _ => ?_, fun e => by omega⟩
    · unfold tK
      rw [e1, if_neg (by omega), if_pos hs, hr, if_pos (by omega), hk]
      rfl
    · unfold tW vlT
      rw [hN, e1, if_pos hk, show (s + (t.2.2.length : Int) - s).toNat = t.2.2.length by omega]
      exact lf_at e4 256 0
  · obtain ⟨s, e1, e2, e3, e4, e5⟩ := bl_at h hl1 hn (fun c hc' => by have := hc c hc'; omega)
    have eq : p + ((enT t).length : Int) = s + t.2.2.length := by omega
    have hb := At_mem e4 hc (Int.le_refl _) (by omega : s < s + (t.2.2.length : Int))
    have hs : ¬ isL (b s) = true := fun c => by have := isL_i.mp c; omega
    have hd : isD (b s) = true := isD_i.mpr hb
    have hr : rn isD b n s = s + t.2.2.length := rn_u (P := isD) (by omega) e5 (fun k k0 k1 => isD_i.mpr (At_mem e4 hc k0 k1)) (fun c => by rw [← eq] at c; have := (hx c.1).2 c.2; omega)
    have hN : tN b n p = s + t.2.2.length := by unfold tN; rw [e1, if_neg (by omega), if_neg hs, if_pos hd, hr]
    refine ⟨?_, by rw [hN, eq], fun e => by omega, fun _ => ?_⟩
    · unfold tK
      rw [e1, if_neg (by omega), if_neg hs, if_pos hd, hr, if_pos (by omega), hk]
      rfl
    · unfold tV vlT
      rw [hN, e1, if_neg (by omega), show (s + (t.2.2.length : Int) - s).toNat = t.2.2.length by omega]
      exact lf_at e4 10 48
  · subst hk
    have h59 : b p = 59 := by
      have := h 0 (by decide)
      rw [show p + ((0 : Nat) : Int) = p by omega] at this
      exact this
    have hn1 : p + 1 ≤ n := hn
    have e1 : tS b n p = p := rn_n (fun c => by have := isB_i.mp c.2; omega)
    have nl : ¬ isL (b p) = true := fun c => by have := isL_i.mp c; omega
    have nd : ¬ isD (b p) = true := fun c => by have := isD_i.mp c; omega
    refine ⟨?_, ?_, fun e => (by cases e), fun e => (by cases e)⟩
    · unfold tK
      rw [e1, if_neg (by omega), if_neg nl, if_neg nd, if_pos h59]
      rfl
    · unfold tN
      rw [e1, if_neg (by omega), if_neg nl, if_neg nd]
      rfl
theorem ok_pos (ht : okT t) : 1 ≤ t.2.2.length := by
  rcases ht with h | h | h
  · exact h.2.1
  · exact h.2.1
  · rw [h]; decide
theorem hd_at (h : okT t) (hA : At b p (enT t ++ enS r)) (ht : t.1 = true ∨ t.2.1 = 3) : ¬ isL (b p) = true ∧ ¬ isD (b p) = true := by
  have e0 := (At_app hA).1 0 (by
    have := ok_pos h
    show 0 < ((if t.1 then [32] else []) ++ t.2.2 : List Int).length
    rw [List.length_append]
    omega)
  rw [show p + ((0 : Nat) : Int) = p by omega] at e0
  have : b p = 32 ∨ b p = 59 := by
    rcases ht with ht | ht
    · left
      rw [e0]
      show ((if t.1 then [32] else []) ++ t.2.2 : List Int).getD 0 0 = 32
      rw [ht]
      rfl
    · rcases h with h | h | h
      · omega
      · omega
      · right
        rw [e0, h]
        rfl
  refine ⟨fun c => ?_, fun c => ?_⟩
  · have := isL_i.mp c; omega
  · have := isD_i.mp c; omega
theorem toks_of : ∀ (ts : List Tkn) (p : Int), WF ts → At b p (enS ts) → p + (enS ts).length = n → Toks b n p ts
  | [], p, _, _, h => by
    have : p + ((0 : Nat) : Int) = n := h
    show p = n
    omega
  | t :: r, p, hw, hA, hn => by
    obtain ⟨h1, h2, h3⟩ := WF_c.mp hw
    have hA : At b p (enT t ++ enS r) := hA
    have hn : p + ((enT t ++ enS r).length : Nat) = n := hn
    rw [List.length_append] at hn
    obtain ⟨a1, a2⟩ := At_app hA
    refine ⟨p + (enT t).length, tok_at h1 a1 (by omega) (fun hlt => ?_), toks_of r _ h3 a2 (by omega)⟩
    match r, h2, h3, a2, hn with
    | [], _, _, _, hn =>
      exfalso
      have : (enS []).length = 0 := rfl
      omega
    | u :: r', h2, h3, a2, _ =>
      have h2 : (t.2.1 == 3 || u.1 || u.2.1 == 3) = true := h2
      by_cases c3 : t.2.1 = 3
      · exact ⟨fun _ => c3, fun _ => Or.inl c3⟩
      · have hu : u.1 = true ∨ u.2.1 = 3 := by
          simp only [Bool.or_eq_true, beq_iff_eq] at h2
          rcases h2 with (h2 | h2) | h2
          · exact absurd h2 c3
          · exact Or.inl h2
          · exact Or.inr h2
        have q := hd_at (WF_c.mp h3).1 a2 hu
        exact ⟨fun c => absurd c q.1, fun c => absurd c q.2⟩
end TOKS
