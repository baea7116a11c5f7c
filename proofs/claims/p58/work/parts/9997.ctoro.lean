/-! ===== constructors that make objects ===== -/
section CTORO
variable {M : MI} {Gf : Gx} {Post : Int → Rf → Mem → Prop} {lv : List (Option AV)} {S T : List Sh} {kc : Nat × Nat} {pc : Nat} {ρ : Rf} {μ : Mem}
theorem mk_oN (t : Nat) {o ci n0 cj ixn ixi : Nat} (Mc : MI) (U : List Sh) {q : vw_C} {PP : Nat → Rf → Mem → Prop} (hlv : lv[0]? = some (some (qP o))) (hno : o ≠ nid) (ho : S[o]? = some (ci, n0)) (hS : S.length = o + 1) (ht : T.length = t) (d0 : decode M.2.1 pc = .ok (.aload_n 0, 1)) (d1 : decode M.2.1 (pc + 1) = .ok (.new ixn, 3)) (d4 : decode M.2.1 (pc + 1 + 3) = .ok (.dup, 1)) (d5 : decode M.2.1 (pc + 1 + 3 + 1) = .ok (.invokespecial ixi, 3)) (hq : vwCl[cj]? = some q) (hw : Cond.classLink M.1.cls ixn q.1 ∈ Wd) (hw2 : Cond.instantiable q.1 q.2.2 ∈ Wd) (hw3 : Cond.initialized q.1 ∈ Wd) (hlen : o + 1 + t + 1 < nid) (hcap1 : kc.1 + 1 ≤ M.2.2.2.2.cells ∧ kc.2 + q.2.2 ≤ M.2.2.2.2.slots) (hc : CNN M.1.cls ixi Mc) (hR : CR M Mc) (hcap2 : kc.1 + 1 + Mc.2.2.2.2.cells ≤ M.2.2.2.2.cells ∧ kc.2 + q.2.2 + Mc.2.2.2.2.slots ≤ M.2.2.2.2.slots) (hE : ∀ X : List Sh, X.length = o + 1 + t → qE Mc (false, (X ++ [(cj, 0)]) ++ U) (false, X ++ [(cj, 0)]) [qP X.length] ρ μ (fun _ ρ' μ' => PP X.length ρ' μ')) (kk : ∀ (ρ' : Rf) (μ' : Mem), PP (o + 1 + t) ρ' μ' → qX M Gf Post (false, S ++ (T ++ ((cj, 0) :: U))) (kc.1 + 1 + Mc.2.2.2.2.cells, kc.2 + q.2.2 + Mc.2.2.2.2.slots) (pc + 1 + 3 + 1 + 3) lv [qP (o + 1 + t), qP o] ρ' μ') : qX M Gf Post (false, S ++ T) kc pc lv [] ρ μ := by
  have hl : (S ++ T).length = o + 1 + t := by rw [List.length_append, hS, ht]
  refine qX_aload_n 0 d0 rfl hlv hno ?_
  refine qX_new (G := (false, S ++ T)) cj d1 hq hw hw2 hw3 rfl (by show (S ++ T).length + 1 < nid; omega) hcap1 ?_
  refine qX_dup d4 rfl ?_
  refine qX_callIN (G := (false, (S ++ T) ++ [(cj, 0)])) (sh := (cj, 0)) Mc (S ++ T).length [qP (S ++ T).length, qP o] d5 hc hR (by simp) (Nat.le_of_ble_eq_true rfl) hcap2 (hE (S ++ T) hl) (by show ((S ++ T) ++ [((cj, 0) : Sh)]).length ≤ (((S ++ T) ++ [((cj, 0) : Sh)]) ++ U).length; rw [List.length_append (bs := U)]; omega) (fun z ρ' μ' h => ?_)
  have h2 := kk ρ' μ' (by rw [← hl]; exact h)
  have e : ((S ++ T) ++ [((cj, 0) : Sh)]) ++ U = S ++ (T ++ ((cj, 0) :: U)) := by simp
  rw [e, hl]
  exact h2
theorem mk_oI (t : Nat) {o ci n0 cj ixn ixi : Nat} (Mc : MI) (U : List Sh) {q : vw_C} {PP : Nat → Rf → Mem → Prop} (hlv : lv[0]? = some (some (qP o))) (hno : o ≠ nid) (ho : S[o]? = some (ci, n0)) (hS : S.length = o + 1) (ht : T.length = t) (d0 : decode M.2.1 pc = .ok (.aload_n 0, 1)) (d1 : decode M.2.1 (pc + 1) = .ok (.new ixn, 3)) (d4 : decode M.2.1 (pc + 1 + 3) = .ok (.dup, 1)) (d5 : decode M.2.1 (pc + 1 + 3 + 1) = .ok (.invokespecial ixi, 3)) (hq : vwCl[cj]? = some q) (hw : Cond.classLink M.1.cls ixn q.1 ∈ Wd) (hw2 : Cond.instantiable q.1 q.2.2 ∈ Wd) (hw3 : Cond.initialized q.1 ∈ Wd) (hlen : o + 1 + t + 1 < nid) (hcap1 : kc.1 + 1 ≤ M.2.2.2.2.cells ∧ kc.2 + q.2.2 ≤ M.2.2.2.2.slots) (hc : CIn M.1.cls ixi Mc) (hR : CR M Mc) (hcap2 : kc.1 + 1 + Mc.2.2.2.2.cells ≤ M.2.2.2.2.cells ∧ kc.2 + q.2.2 + Mc.2.2.2.2.slots ≤ M.2.2.2.2.slots) (hE : ∀ X : List Sh, X.length = o + 1 + t → qE Mc (false, (X ++ [(cj, 0)]) ++ U) (false, X ++ [(cj, 0)]) [qP X.length] ρ μ (fun _ ρ' μ' => PP X.length ρ' μ')) (kk : ∀ (ρ' : Rf) (μ' : Mem), PP (o + 1 + t) ρ' μ' → qX M Gf Post (false, S ++ (T ++ ((cj, 0) :: U))) (kc.1 + 1 + Mc.2.2.2.2.cells, kc.2 + q.2.2 + Mc.2.2.2.2.slots) (pc + 1 + 3 + 1 + 3) lv [qP (o + 1 + t), qP o] ρ' μ') : qX M Gf Post (false, S ++ T) kc pc lv [] ρ μ := by
  have hl : (S ++ T).length = o + 1 + t := by rw [List.length_append, hS, ht]
  refine qX_aload_n 0 d0 rfl hlv hno ?_
  refine qX_new (G := (false, S ++ T)) cj d1 hq hw hw2 hw3 rfl (by show (S ++ T).length + 1 < nid; omega) hcap1 ?_
  refine qX_dup d4 rfl ?_
  refine qX_callI (G := (false, (S ++ T) ++ [(cj, 0)])) (sh := (cj, 0)) Mc (S ++ T).length [qP (S ++ T).length, qP o] d5 hc hR (by simp) (Nat.le_of_ble_eq_true rfl) hcap2 (hE (S ++ T) hl) (by show ((S ++ T) ++ [((cj, 0) : Sh)]).length ≤ (((S ++ T) ++ [((cj, 0) : Sh)]) ++ U).length; rw [List.length_append (bs := U)]; omega) (fun z ρ' μ' h => ?_)
  have h2 := kk ρ' μ' (by rw [← hl]; exact h)
  have e : ((S ++ T) ++ [((cj, 0) : Sh)]) ++ U = S ++ (T ++ ((cj, 0) :: U)) := by simp
  rw [e, hl]
  exact h2
end CTORO
/-- what a leaf leaves: the cells before it, its own fields -/
theorem LY.leaf {o ci n : Nat} {al : List Sh} {fl : List (Nat × Nat)} {ρ ρ' : Rf} (h : ρ' = upsF o fl ρ) (h1 : ∀ k, k < 50 → ((sto ci k).all fun off => fl.contains (k, off)) = true) (h2 : (fl.map Prod.fst).Nodup) (h3 : ∀ sh ∈ al, 9 ≤ sh.1) : LY o ((ci, n) :: al) ρ' ∧ ∀ a, a < o → ρ' a = ρ a := by
  subst h
  refine ⟨LY.app (a := [(ci, n)]) (LY.one fl h1 (fun k t hk => upsF_g fl ρ h2 hk)) (LY.ar h3), fun a ha => upsF_o (by omega) fl ρ⟩
theorem ly0 {o : Nat} {ρ ρ' : Rf} (h : ρ' = upsF o fl0 ρ) : LY o ((0, 0) :: al0) ρ' ∧ ∀ a, a < o → ρ' a = ρ a := LY.leaf h (by decide) (by decide) (by decide)
theorem ly3 {o : Nat} {ρ ρ' : Rf} (h : ρ' = upsF o fl3 ρ) : LY o ((3, 0) :: al3) ρ' ∧ ∀ a, a < o → ρ' a = ρ a := LY.leaf h (by decide) (by decide) (by decide)
theorem ly4 {o : Nat} {ρ ρ' : Rf} (h : ρ' = upsF o fl4 ρ) : LY o ((4, 0) :: al4) ρ' ∧ ∀ a, a < o → ρ' a = ρ a := LY.leaf h (by decide) (by decide) (by decide)
theorem ly5 {o : Nat} {ρ ρ' : Rf} (h : ρ' = upsF o fl5 ρ) : LY o ((5, 0) :: al5) ρ' ∧ ∀ a, a < o → ρ' a = ρ a := LY.leaf h (by decide) (by decide) (by decide)
theorem ly6 {o : Nat} {ρ ρ' : Rf} (h : ρ' = upsF o fl6 ρ) : LY o ((6, 0) :: al6) ρ' ∧ ∀ a, a < o → ρ' a = ρ a := LY.leaf h (by decide) (by decide) (by decide)
theorem ly8 {o : Nat} {ρ ρ' : Rf} (h : ρ' = upsF o fl8 ρ) : LY o ((8, 0) :: al8) ρ' ∧ ∀ a, a < o → ρ' a = ρ a := LY.leaf h (by decide) (by decide) (by decide)
def al2 : List Sh := (([(12, 900), (13, 12)] : List Sh) ++ ((0, 0) :: al0)) ++ ((6, 0) :: al6)
set_option maxRecDepth 4000 in
theorem ct_X2 {S : List Sh} {ρ : Rf} {μ : Mem} (hl : S.length + 100 < 100000) : qE mX2_init (false, (S ++ [(2, 0)]) ++ al2) (false, S ++ [(2, 0)]) [qP S.length] ρ μ (fun _ ρ' μ' => (∀ a, a < S.length → ρ' a = ρ a) ∧ LY S.length ((2, 0) :: al2) ρ' ∧ ρ' S.length (5 : Nat) = S.length + 3 ∧ ρ' S.length (6 : Nat) = S.length + 19 ∧ μ' = up2 μ S.length (4 : Nat) (-1)) := by
  have hno : S.length ≠ nid := by unfold nid; omega
  have hS : (S ++ [((2, 0) : Sh)]).length = S.length + 1 := by simp
  have ho : (S ++ [((2, 0) : Sh)])[S.length]? = some (2, 0) := by simp
  have ga : ∀ {T : List Sh}, ((S ++ [((2, 0) : Sh)]) ++ T)[S.length]? = some (2, 0) := by
    intro T
    rw [List.getElem?_append_left (by omega)]
    exact ho
  have hL : ∀ {T : List Sh}, T.length ≤ 30 → ((S ++ [((2, 0) : Sh)]) ++ T).length + 1 < nid := fun h => by rw [List.length_append, hS]; unfold nid; omega
  refine qE_intro pl_X2_init (Nat.le_of_ble_eq_true rfl) (by show (S ++ [((2, 0) : Sh)]).length ≤ ((S ++ [((2, 0) : Sh)]) ++ al2).length; simp) ?_
  show qX mX2_init _ _ (false, S ++ [((2, 0) : Sh)]) (0, 0) 0 [some (qP S.length)] [] ρ μ
  refine qX_aload_n 0 dX2_init_0 rfl rfl hno ?_
  refine qX_objInit dX2_init_1 kM_X2_3 ho (by decide) (by decide) ?_
  refine qX_nil ?_
  refine mk_f (kd := 12) (N := 900) 0 0 rfl hno ho hS rfl dX2_init_4 (fun h => qX_sipush dX2_init_5 (by unfold i32; omega) rfl h) (fun h => qX_newB 900 dX2_init_8 rfl (by decide) rfl (hL (by decide)) (by decide) h) dX2_init_10 fs_X2_9 (fun _ => ⟨rfl, rfl⟩) rfl rfl ?_
  refine mk_f (kd := 13) (N := 12) 1 1 rfl hno ho hS rfl dX2_init_13 (fun h => qX_bipush dX2_init_14 (by unfold i32; omega) rfl h) (fun h => qX_newZ 12 dX2_init_16 rfl (by decide) rfl (hL (by decide)) (by decide) h) dX2_init_18 fs_X2_15 (fun _ => ⟨rfl, rfl⟩) rfl rfl ?_
  refine qX_aload_n 0 dX2_init_21 rfl rfl hno ?_
  refine qX_iconst dX2_init_22 (by unfold i32; omega) ?_
  refine qX_putI 2 4 S.length dX2_init_23 fs_X2_19 ga ?_
  generalize hρ2 : up2 (up2 ρ S.length ((0 : Nat) : Int) (S.length + 1 + 0)) S.length ((1 : Nat) : Int) (S.length + 1 + 1) = ρ2
  refine mk_oN 2 (cj := 0) mX0_init al0 rfl hno ho hS rfl dX2_init_26 dX2_init_27 dX2_init_30 dX2_init_31 rfl kL_X2_23 kN_X0 kZ_X0 (by unfold nid; omega) (by decide) cm_X2_25 ⟨by decide, by decide⟩ (by decide) (PP := fun o ρ' μ' => ρ' = upsF o fl0 ρ2 ∧ μ' = _) (fun X hX => ct_X0 (S := X) (by omega)) (fun ρ3 μ3 p3 => ?_)
  obtain ⟨p3, rfl⟩ := p3
  refine qX_putR 2 5 S.length dX2_init_34 fs_X2_26 ga (fun _ => ⟨rfl, rfl⟩) (by simp [al0]) rfl ?_
  refine mk_oN 18 (cj := 6) mX6_init al6 rfl hno ho hS rfl dX2_init_37 dX2_init_38 dX2_init_41 dX2_init_42 rfl kL_X2_30 kN_X6 kZ_X6 (by unfold nid; omega) (by decide) cm_X2_32 ⟨by decide, by decide⟩ (by decide) (PP := fun o ρ' μ' => ρ' = upsF o fl6 _ ∧ μ' = _) (fun X hX => ct_X6 (S := X) (by omega)) (fun ρ4 μ4 p4 => ?_)
  obtain ⟨p4, rfl⟩ := p4
  refine qX_putR 2 6 S.length dX2_init_45 fs_X2_33 ga (fun _ => ⟨rfl, rfl⟩) (by simp [al0, al6]) rfl ?_
  refine qX_return rfl dX2_init_48 rfl (by decide) ?_
  obtain ⟨y3, f3⟩ := ly0 p3
  obtain ⟨y4, f4⟩ := ly6 p4
  have e2 : ∀ a, a < S.length → ρ2 a = ρ a := fun a ha => by rw [← hρ2, up2_c (by omega), up2_c (by omega)]
  have g0 : ∀ k : Int, k ≠ 5 → k ≠ 6 → up2 ρ4 S.length ((6 : Nat) : Int) (S.length + 1 + 18) S.length k = ρ2 S.length k := fun k k5 k6 => by
    rw [up2_k (by omega), f4 _ (by omega), up2_k (by omega), f3 _ (by omega)]
  refine ⟨fun a ha => by rw [up2_c (by omega), f4 a (by omega), up2_c (by omega), f3 a (by omega), e2 a ha], ?_, ?_, ?_, rfl⟩
  · refine LY.app (a := ((2, 0) : Sh) :: (([(12, 900), (13, 12)] : List Sh) ++ ((0, 0) :: al0))) (b := (6, 0) :: al6) ?_ ?_
    · refine LY.app (a := ([(2, 0), (12, 900), (13, 12)] : List Sh)) (b := (0, 0) :: al0) ?_ ?_
      · refine LY.app (a := ([(2, 0)] : List Sh)) (b := ([(12, 900), (13, 12)] : List Sh)) ?_ (LY.ar (by decide))
        refine LY.one [(0, 0), (1, 1)] (by decide) (fun k t hk => ?_)
        rcases List.mem_cons.mp hk with h | h
        · cases h
          rw [g0 _ (by decide) (by decide), ← hρ2, up2_k (by decide), up2_s]
        · rw [List.mem_singleton] at h
          cases h
          rw [g0 _ (by decide) (by decide), ← hρ2, up2_s]
      · refine LY.fr y3 (fun a a0 a1 => ?_)
        have a1 : a < S.length + 3 + 16 := a1
        have a0 : S.length + 3 ≤ a := a0
        rw [up2_c (by omega), f4 a (by omega), up2_c (by omega)]
    · refine LY.fr y4 (fun a a0 a1 => ?_)
      have a0 : S.length + 19 ≤ a := a0
      rw [up2_c (by omega)]
  · rw [up2_k (by decide), f4 _ (by omega), up2_s]
  · rw [up2_s]
