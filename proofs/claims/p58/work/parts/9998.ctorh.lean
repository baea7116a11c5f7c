/-! ===== the history's constructor ===== -/
theorem qX_cast {M : MI} {Gf G G' : Gx} {Post : Int → Rf → Mem → Prop} {lv lv' : List (Option AV)} {st : List AV} {kc kc' : Nat × Nat} {pc : Nat} {ρ : Rf} {μ : Mem} (hG : G = G') (hk : kc = kc') (hlv : lv = lv') (h : qX M Gf Post G' kc' pc lv' st ρ μ) : qX M Gf Post G kc pc lv st ρ μ := by
  subst hG hk hlv
  exact h
def bl6 : Nat → List Sh
  | 0 => []
  | i + 1 => bl6 i ++ ((6, 0) :: al6)
theorem bl6_len : ∀ i, (bl6 i).length = 7 * i
  | 0 => rfl
  | i + 1 => by
    show (bl6 i ++ ((6, 0) :: al6)).length = _
    rw [List.length_append, bl6_len i]
    show 7 * i + 7 = _
    omega
def al1 : List Sh := ([(14, 10)] : List Sh) ++ bl6 10
set_option maxRecDepth 4000 in
theorem ct_X1 {S : List Sh} {ρ : Rf} {μ : Mem} (hl : S.length + 200 < 100000) : qE mX1_init (false, (S ++ [(1, 0)]) ++ al1) (false, S ++ [(1, 0)]) [qP S.length] ρ μ (fun _ ρ' μ' => (∀ a, a < S.length → ρ' a = ρ a) ∧ LY S.length ((1, 0) :: al1) ρ' ∧ (∀ j : Nat, j < 10 → ρ' (S.length + 1) (j : Nat) = S.length + 2 + 7 * j) ∧ μ' = μ) := by
  have hno : S.length ≠ nid := by unfold nid; omega
  have hS : (S ++ [((1, 0) : Sh)]).length = S.length + 1 := by simp
  have ho : (S ++ [((1, 0) : Sh)])[S.length]? = some (1, 0) := by simp
  have ga : ∀ {T : List Sh}, ((S ++ [((1, 0) : Sh)]) ++ T)[S.length]? = some (1, 0) := by
    intro T
    rw [List.getElem?_append_left (by omega)]
    exact ho
  have gb : ∀ {T : List Sh}, ((S ++ [((1, 0) : Sh)]) ++ (([(14, 10)] : List Sh) ++ T))[S.length + 1]? = some (14, 10) := by
    intro T
    rw [List.getElem?_append_right (by omega), hS, Nat.sub_self]
    rfl
  refine qE_intro pl_X1_init (Nat.le_of_ble_eq_true rfl) (by show (S ++ [((1, 0) : Sh)]).length ≤ ((S ++ [((1, 0) : Sh)]) ++ al1).length; simp) ?_
  show qX mX1_init _ _ (false, S ++ [((1, 0) : Sh)]) (0, 0) 0 [some (qP S.length), none] [] ρ μ
  generalize hP : (fun (_ : Int) (ρ' : Rf) (μ' : Mem) => (∀ a, a < S.length → ρ' a = ρ a) ∧ LY S.length ((1, 0) :: al1) ρ' ∧ (∀ j : Nat, j < 10 → ρ' (S.length + 1) (j : Nat) = S.length + 2 + 7 * j) ∧ μ' = μ) = PP
  have L : ∀ (m i : Nat) (ρ1 : Rf), i + m = 10 → (∀ a, a < S.length → ρ1 a = ρ a) → ρ1 S.length ((0 : Nat) : Int) = S.length + 1 → LY (S.length + 2) (bl6 i) ρ1 → (∀ j : Nat, j < i → ρ1 (S.length + 1) (j : Nat) = S.length + 2 + 7 * j) →
      qX mX1_init (false, (S ++ [(1, 0)]) ++ al1) PP (false, (S ++ [(1, 0)]) ++ (([(14, 10)] : List Sh) ++ bl6 i)) (1 + 7 * i, 10 + 101 * i) 15 [some (qP S.length), some (qI (i : Int))] [] ρ1 μ := by
    intro m
    induction m with
    | zero =>
      intro i ρ1 hi f1 f2 f3 f4
      have e : i = 10 := by omega
      subst e
      refine qX_iload_n 1 dX1_init_15 rfl rfl ?_
      refine qX_bipush dX1_init_16 (by unfold i32; omega) rfl ?_
      refine qX_icmp_ge 40 dX1_init_18 rfl (fun _ => ?_) (fun h => by omega)
      refine qX_return rfl dX1_init_40 rfl (by decide) ?_
      rw [← hP]
      refine ⟨f1, ?_, f4, rfl⟩
      refine LY.app (a := ([(1, 0)] : List Sh) ++ ([(14, 10)] : List Sh)) (b := bl6 10) ?_ f3
      refine LY.app ?_ (LY.ar (by decide))
      refine LY.one [(0, 0)] (by decide) (fun k t hk => ?_)
      rw [List.mem_singleton] at hk
      cases hk
      exact f2
    | succ m ih =>
      intro i ρ1 hi f1 f2 f3 f4
      have bl := bl6_len i
      have hlen : ((S ++ [((1, 0) : Sh)]) ++ (([(14, 10)] : List Sh) ++ bl6 i)).length = S.length + 2 + 7 * i := by
        rw [List.length_append, hS, List.length_append, bl]
        show S.length + 1 + (1 + 7 * i) = _
        omega
      refine qX_iload_n 1 dX1_init_15 rfl rfl ?_
      refine qX_bipush dX1_init_16 (by unfold i32; omega) rfl ?_
      refine qX_icmp_ge 40 dX1_init_18 rfl (fun h => by omega) (fun _ => ?_)
      refine qX_aload_n 0 dX1_init_21 rfl rfl hno ?_
      refine qX_getR 1 0 S.length dX1_init_22 fs_X1_11 ga ?_
      rw [f2]
      refine qX_iload_n 1 dX1_init_25 rfl rfl ?_
      refine qX_new (G := (false, (S ++ [((1, 0) : Sh)]) ++ (([(14, 10)] : List Sh) ++ bl6 i))) 6 dX1_init_26 rfl kL_X1_9 kN_X6 kZ_X6 rfl (by rw [hlen]; unfold nid; omega) (by refine ⟨?_, ?_⟩ <;> (show _ ≤ _; simp [mX1_init]; omega)) ?_
      refine qX_dup dX1_init_29 rfl ?_
      refine qX_callIN (G := (false, ((S ++ [((1, 0) : Sh)]) ++ (([(14, 10)] : List Sh) ++ bl6 i)) ++ [(6, 0)])) (sh := (6, 0)) mX6_init _ _ dX1_init_30 cm_X1_17 ⟨by decide, by decide⟩ (by simp) (Nat.le_of_ble_eq_true rfl) (by refine ⟨?_, ?_⟩ <;> (show _ ≤ _; simp [mX1_init, mX6_init]; omega)) (ct_X6 (by rw [hlen]; omega)) (by show (_ ++ [((6, 0) : Sh)]).length ≤ ((_ ++ [((6, 0) : Sh)]) ++ al6).length; rw [List.length_append (bs := al6)]; omega) (fun z ρ2 μ2 h => ?_)
      obtain ⟨p2, rfl⟩ := h
      rw [hlen] at p2 ⊢
      obtain ⟨y2, g2⟩ := ly6 p2
      refine qX_cast (G' := (false, (S ++ [((1, 0) : Sh)]) ++ (([(14, 10)] : List Sh) ++ bl6 (i + 1)))) (kc' := (1 + 7 * (i + 1), 10 + 101 * (i + 1))) (by show (false, ((_ ++ _) ++ _) ++ _) = (false, _ ++ (_ ++ (bl6 i ++ _))); simp) (by show (1 + 7 * i + 1 + 6, 10 + 101 * i + 7 + 94) = _; congr 1) rfl ?_
      have bl2 := bl6_len (i + 1)
      refine qX_aast (n := 10) (nv := 0) dX1_init_33 gb ⟨by omega, by omega⟩ ?_ ?_
      · show ((S ++ [((1, 0) : Sh)]) ++ (([(14, 10)] : List Sh) ++ (bl6 i ++ ((6, 0) :: al6))))[S.length + 2 + 7 * i]? = some (6, 0)
        rw [List.getElem?_append_right (by omega), List.getElem?_append_right (by rw [hS]; show 1 ≤ _; omega), List.getElem?_append_right (by rw [hS, bl]; show _ ≤ _ - 1; omega), hS, bl]
        rw [show S.length + 2 + 7 * i - (S.length + 1) - ([(14, 10)] : List Sh).length - 7 * i = 0 by show S.length + 2 + 7 * i - (S.length + 1) - 1 - 7 * i = 0; omega]
        rfl
      refine qX_iinc dX1_init_34 rfl (by decide) rfl ?_
      refine qX_goto 15 dX1_init_37 rfl ?_
      have ii : i32 ((i : Int) + 1) := by unfold i32; omega
      refine qX_cast rfl rfl (lv' := [some (qP S.length), some (qI ((i + 1 : Nat) : Int))]) (by rw [w32_id ii]; rfl) ?_
      refine ih (i + 1) _ (by omega) (fun a ha => ?_) ?_ ?_ (fun j hj => ?_)
      · rw [up2_c (by omega), g2 a (by omega), f1 a ha]
      · rw [up2_c (by omega), g2 _ (by omega), f2]
      · refine LY.app (LY.fr f3 (fun a a0 a1 => ?_)) (LY.fr ?_ (fun a a0 a1 => up2_c (by omega)))
        · rw [up2_c (by omega), g2 a (by omega)]
        · rw [bl]; exact y2
      · by_cases e : j = i
        · rw [e, up2_s]
        · rw [up2_k (by omega), g2 _ (by omega), f4 j (by omega)]
  refine qX_aload_n 0 dX1_init_0 rfl rfl hno ?_
  refine qX_objInit dX1_init_1 kM_X1_3 ho (by decide) (by decide) ?_
  refine qX_nil ?_
  refine mk_f (kd := 14) (N := 10) 0 0 rfl hno ho hS rfl dX1_init_4 (fun h => qX_bipush dX1_init_5 (by unfold i32; omega) rfl h) (fun h => qX_newQ 10 dX1_init_7 kL_X1_9 rfl (by decide) rfl (by show ((S ++ [((1, 0) : Sh)]) ++ []).length + 1 < nid; rw [List.append_nil, hS]; unfold nid; omega) (by decide) h) dX1_init_10 fs_X1_11 (fun _ => ⟨rfl, rfl⟩) rfl rfl ?_
  refine qX_iconst dX1_init_13 (by unfold i32; omega) ?_
  refine qX_istore_n 1 dX1_init_14 rfl (by decide) rfl ?_
  refine L 10 0 _ (by omega) (fun a ha => by rw [up2_c (by omega)]) (by rw [up2_s]) (fun x sh hx => by cases hx) (fun j hj => by omega)
