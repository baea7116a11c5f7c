/-! ===== the constructors: what they make ===== -/
def upsF (o : Nat) : List (Nat × Nat) → Rf → Rf
  | [], ρ => ρ
  | (k, t) :: F, ρ => upsF o F (up2 ρ o (k : Nat) (o + 1 + t))
theorem upsF_o {o a : Nat} (h : a ≠ o) : ∀ (F : List (Nat × Nat)) (ρ : Rf), upsF o F ρ a = ρ a
  | [], _ => rfl
  | (k, t) :: F, ρ => by
    show upsF o F _ a = _
    rw [upsF_o h F, up2_c h]
theorem upsF_n {o k : Nat} : ∀ (F : List (Nat × Nat)) (ρ : Rf), k ∉ F.map Prod.fst → upsF o F ρ o (k : Nat) = ρ o (k : Nat)
  | [], _, _ => rfl
  | (k1, t) :: F, ρ, h => by
    have h1 : k ≠ k1 := fun e => h (by rw [e]; exact List.mem_cons_self)
    show upsF o F _ o _ = _
    rw [upsF_n F _ (fun hh => h (List.mem_cons_of_mem _ hh)), up2_k (by omega)]
theorem upsF_g {o k t : Nat} : ∀ (F : List (Nat × Nat)) (ρ : Rf), (F.map Prod.fst).Nodup → (k, t) ∈ F → upsF o F ρ o (k : Nat) = o + 1 + t
  | [], _, _, h => nomatch h
  | (k1, t1) :: F, ρ, hn, h => by
    have hm : k1 ∉ F.map Prod.fst ∧ (F.map Prod.fst).Nodup := List.nodup_cons.mp hn
    rcases List.mem_cons.mp h with e | h
    · cases e
      show upsF o F _ o _ = _
      rw [upsF_n F _ hm.1, up2_s]
    · exact upsF_g F _ hm.2 h
theorem sto_b {c k off : Nat} (h : sto c k = some off) : c < 9 ∧ k < 50 := by
  unfold sto at h
  split at h
  all_goals first | exact ⟨by decide, by decide⟩ | cases h
/-- every field that keeps its place holds it -/
def LY (o : Nat) (shs : List Sh) (ρ : Rf) : Prop := ∀ (x : Nat) (sh : Sh), shs[x]? = some sh → ∀ k off : Nat, sto sh.1 k = some off → ρ (o + x) (k : Nat) = o + x + 1 + off
theorem LY.app {o : Nat} {a b : List Sh} {ρ : Rf} (ha : LY o a ρ) (hb : LY (o + a.length) b ρ) : LY o (a ++ b) ρ := by
  intro x sh hx k off hk
  by_cases c : x < a.length
  · rw [List.getElem?_append_left c] at hx
    exact ha x sh hx k off hk
  · rw [List.getElem?_append_right (by omega)] at hx
    have := hb (x - a.length) sh hx k off hk
    rw [show o + a.length + (x - a.length) = o + x by omega] at this
    exact this
theorem LY.ar {o : Nat} {T : List Sh} {ρ : Rf} (h : ∀ sh ∈ T, 9 ≤ sh.1) : LY o T ρ := fun x sh hx k off hk => by
  have := h sh (List.mem_of_getElem? hx)
  have := (sto_b hk).1
  omega
theorem LY.one {o ci n : Nat} {ρ : Rf} (F : List (Nat × Nat)) (hF : ∀ k, k < 50 → ((sto ci k).all fun off => F.contains (k, off)) = true) (h : ∀ k t, (k, t) ∈ F → ρ o (k : Nat) = o + 1 + t) : LY o [(ci, n)] ρ := by
  intro x sh hx k off hk
  match x, hx with
  | 0, hx =>
    cases hx
    have h1 := hF k (sto_b hk).2
    have hk : sto ci k = some off := hk
    rw [hk] at h1
    have h2 : (k, off) ∈ F := List.elem_iff.mp h1
    exact h k off h2
  | x + 1, hx => cases hx
theorem LY.fr {o : Nat} {T : List Sh} {ρ ρ' : Rf} (h : LY o T ρ) (hf : ∀ a, o ≤ a → a < o + T.length → ρ' a = ρ a) : LY o T ρ' := fun x sh hx k off hk => by
  have hl : x < T.length := (List.getElem?_eq_some_iff.mp hx).1
  rw [hf (o + x) (by omega) (by omega)]
  exact h x sh hx k off hk
section CTOR
variable {M : MI} {Gf : Gx} {Post : Int → Rf → Mem → Prop} {lv : List (Option AV)} {S T : List Sh} {kc : Nat × Nat} {pc : Nat} {ρ : Rf} {μ : Mem}
theorem mk_f (k t : Nat) {o ci N kd n0 pc2 pc3 ix : Nat} {ty : FieldType} (hlv : lv[0]? = some (some (qP o))) (hno : o ≠ nid) (ho : S[o]? = some (ci, n0)) (hS : S.length = o + 1) (ht : T.length = t) (d0 : decode M.2.1 pc = .ok (.aload_n 0, 1))
    (hp : qX M Gf Post (false, S ++ T) kc pc2 lv [qI (N : Nat), qP o] ρ μ → qX M Gf Post (false, S ++ T) kc (pc + 1) lv [qP o] ρ μ)
    (hn : qX M Gf Post (false, (S ++ T) ++ [(kd, N)]) (kc.1 + 1, kc.2 + N) pc3 lv [qP (S ++ T).length, qP o] ρ μ → qX M Gf Post (false, S ++ T) kc pc2 lv [qI (N : Nat), qP o] ρ μ)
    (d3 : decode M.2.1 pc3 = .ok (.putfield ix, 3)) (hf : FS M.1.cls ix ci k 2 true ty) (hna : ∀ a, narrow ty (.ref a) = .ref a ∧ fits ty (.ref a) = true) (hi : M.1.name = "<init>") (hme : (vwCl[ci]?).map (fun q => q.1) = some M.1.cls)
    (h : qX M Gf Post (false, S ++ (T ++ [(kd, N)])) (kc.1 + 1, kc.2 + N) (pc3 + 3) lv [] (up2 ρ o (k : Nat) (o + 1 + t)) μ) : qX M Gf Post (false, S ++ T) kc pc lv [] ρ μ := by
  refine qX_aload_n 0 d0 rfl hlv hno (hp (hn ?_))
  have hl : (S ++ T).length = o + 1 + t := by rw [List.length_append, hS, ht]
  have ho2 : ((S ++ T) ++ [(kd, N)])[o]? = some (ci, n0) := by
    rw [List.append_assoc, List.getElem?_append_left (by omega)]
    exact ho
  refine qX_putF (G := (false, (S ++ T) ++ [(kd, N)])) ci k o d3 hf ho2 hna (by show _ < ((S ++ T) ++ [(kd, N)]).length; simp) rfl hi hme ?_
  rw [hl, List.append_assoc]
  exact h
theorem qX_nil {G : List Sh} {st : List AV} (h : qX M Gf Post (false, G ++ []) kc pc lv st ρ μ) : qX M Gf Post (false, G) kc pc lv st ρ μ := by
  rw [List.append_nil] at h
  exact h
end CTOR
