/-! ===== the text: the class ===== -/
section LEs
variable {b : Int → Int} {n lo hi k : Int} {T T' : Tk} {D : Sg}
def LE (n : Int) (T T' : Tk) : Prop := TOK n T' ∧ T.2.2.2 ≤ T'.2.2.2
theorem LE.refl (h : TOK n T) : LE n T T := ⟨h, Int.le_refl _⟩
theorem LE.r (hk : 0 ≤ k) (h : LE n T T') : LE n T (fR k T') := by
  refine ⟨fR_t hk h.1, ?_⟩
  have := h.2
  unfold fR
  split <;> exact this
theorem LE.tk (h : LE n T T') : LE n T (fTk b n T') := by
  refine ⟨fTk_t h.1, ?_⟩
  have t := tok_b (b := b) h.1.2.1
  have := h.2
  unfold fTk
  split
  · show T.2.2.2 ≤ tN b n T'.2.2.2; omega
  · exact this
theorem LE.nu (h : LE n T T') : LE n T (fNu b n lo hi T') := by
  unfold fNu
  repeat' split
  · exact h.tk
  · exact h.tk.r (by decide)
  · exact h.tk.r (by decide)
  · exact h
theorem LE.kw (h : LE n T T') : LE n T (fKw b n k T') := by
  unfold fKw
  repeat' split
  · exact h.tk
  · exact h.tk.r (by decide)
  · exact h
theorem LE.ut {t : Int} (h : LE n T T') : LE n T (fUt D t T') := by
  unfold fUt
  split
  · exact h.r (by decide)
  · exact h
theorem LE.ml (h : LE n T T') : LE n T (fMl b n D T') := by
  unfold fMl
  split
  · exact h.kw.r (by decide)
  · exact h.kw
theorem LE.if {P : Prop} [Decidable P] {A B : Tk} (h1 : LE n T A) (h2 : LE n T B) : LE n T (if P then A else B) := by
  split
  · exact h1
  · exact h2
theorem rd_LE (h : TOK n T) : LE n (fTk b n T) (rdT b n D T) := by
  have h0 : LE n (fTk b n T) (fTk b n T) := LE.refl (fTk_t h)
  unfold rdT
  have htr : LE n (fTk b n T) (tr6 b n D (fTk b n T)) := ((LE.if (h0.nu) (h0.nu.r (by decide))).kw.nu.kw).nu
  have hca : LE n (fTk b n T) (ca6 b n D (fTk b n T)) := ((LE.if (h0.nu.ut) (h0.nu.ut.r (by decide))).nu.nu).nu
  have hm1 : LE n (fTk b n T) (me1 D (fTk b n T)) := LE.if h0 (h0.r (by decide))
  have hme : LE n (fTk b n T) (me5 b n D (fTk b n T)) := ((LE.if (hm1.kw) (hm1.kw.r (by decide))).nu).nu
  have hki : LE n (fTk b n T) (ki2 b n D (fTk b n T)) := (LE.if h0 (h0.r (by decide))).nu
  have hst : LE n (fTk b n T) (st4 b n D (fTk b n T)) := (LE.if (h0.nu.ml) (h0.nu.ml.r (by decide))).nu
  have hty : LE n (fTk b n T) (ty6 b n D (fTk b n T)) := (((((LE.if h0 (h0.r (by decide))).nu).nu).nu).nu).nu
  have hj2 : LE n (fTk b n T) (jo2 b n D (fTk b n T)) := (LE.if h0 (h0.r (by decide))).nu
  have hj3 : LE n (fTk b n T) (jo3 b n D (fTk b n T)) := LE.if hj2 (hj2.r (by decide))
  have hjo : LE n (fTk b n T) (jo7 b n D (fTk b n T)) := (((hj3.nu).ut).nu.ml).nu
  exact LE.if (LE.if htr (LE.if hca (LE.if hme (LE.if hki (LE.if hst (LE.if hty (LE.if hjo (h0.r (by decide))))))))) (h0.r (by decide))
end LEs
def lns (b : Int → Int) (n : Int) : Nat → Sg → Tk → Sg × Tk
  | 0, D, T => (D, T)
  | m + 1, D, T => if (rdT b n D T).1 = 0 ∧ tK b n (rdT b n D T).2.2.2 = 3 then lns b n m (rdS b n D T) (fTk b n (rdT b n D T)) else (rdS b n D T, rdT b n D T)
def cmp (D : Sg) : Prop := (D 4 0 ≠ 0 ∧ D 1 (4 + 0) ≠ 0) ∧ (D 4 1 ≠ 0 ∧ D 1 (4 + 1) ≠ 0) ∧ 0 < D 1 36 ∧ 0 < D 1 61
/-- behind the last line -/
def fn1 (b : Int → Int) (n : Int) (T : Tk) : Tk := if tK b n T.2.2.2 = 0 then fTk b n T else fR 1 (fTk b n T)
noncomputable def fn2 (b : Int → Int) (n : Int) (Z : Sg × Tk) : Tk := have := Classical.propDecidable (cmp Z.1); if cmp Z.1 then fn1 b n Z.2 else fR 5 (fn1 b n Z.2)
def D0 : Sg := fun _ _ => 0
def T0 : Tk := (0, -1, 0, 0)
/-- what becomes of a text -/
noncomputable def pZ (b : Int → Int) (n : Int) : Sg × Tk := lns b n 901 D0 T0
noncomputable def pT (b : Int → Int) (n : Int) : Tk := fn2 b n (pZ b n)
theorem D0_DV {b : Int → Int} : DV b D0 := by
  unfold DV D0
  refine ⟨fun t _ _ => ⟨by decide, by decide, fun h => absurd rfl h⟩, fun t _ _ c c0 c1 => by omega, fun m m0 m1 => by omega, fun k k0 k1 => by omega, fun k _ _ => ⟨by decide, by decide⟩, fun i i0 i1 => by omega, fun j j0 j1 => by omega, by decide, fun i => ?_, fun _ _ => rfl, fun m m0 m1 => by omega⟩
  show s_I _ 0 ≤ 8
  rw [s_I0]
  decide
theorem T0_t {n : Int} (h : 0 ≤ n) : TOK n T0 := ⟨Int.le_refl _, h, Int.le_refl _⟩
theorem lns_ok {b : Int → Int} {n : Int} : ∀ (m : Nat) (D : Sg) (T : Tk), DV b D → TOK n T → DV b (lns b n m D T).1 ∧ TOK n (lns b n m D T).2 := by
  intro m
  induction m with
  | zero => intro D T hv ht; exact ⟨hv, ht⟩
  | succ m ih =>
    intro D T hv ht
    have l := rd_LE (b := b) (D := D) ht
    show DV b (if _ then _ else _ : Sg × Tk).1 ∧ TOK n (if _ then _ else _ : Sg × Tk).2
    split
    · exact ih _ _ (rd_DV hv ht) (fTk_t l.1)
    · exact ⟨rd_DV hv ht, l.1⟩
section CPA
variable {ρ : Rf} {μ : Mem} {b : Int → Int} {n : Int} {T : Tk} {f s : Nat} {D : Sg}
theorem k_isComplete (hd : CD ρ μ f s D) (hv : DV b D) : qE mX2_isComplete GG GG [qP 1] ρ μ (fun z ρ' μ' => ((z = 1 ∧ cmp D) ∨ (z = 0 ∧ ¬ cmp D)) ∧ ρ' = ρ ∧ μ' = μ) := by
  have e15 := hd.2.2.2.1.2.2.2.2.2.1
  have e17 := hd.2.2.2.1.2.2.2.2.2.2.2
  have t0 := hd.2.2.2.1.1 0 (by decide) (by decide)
  have t1 := hd.2.2.2.1.1 1 (by decide) (by decide)
  have C2 : (D 4 0 ≠ 0 ∧ D 1 (4 + 0) ≠ 0) → (D 4 1 ≠ 0 ∧ D 1 (4 + 1) ≠ 0) → qX mX2_isComplete GG (fun z ρ' μ' => ((z = 1 ∧ cmp D) ∨ (z = 0 ∧ ¬ cmp D)) ∧ ρ' = ρ ∧ μ' = μ) GG (0, 0) 2 [some (qP 1), some (qI 2)] [] ρ μ := by
    intro h0 h1
    refine w_X2_isComplete_2 ?_
    refine ⟨fun hc1 => ?_, fun hc1 => ?_⟩
    · rw [hd.2.1, e15, e17]
      refine ⟨(by exact hd.i0), ?_⟩
      refine ⟨fun hc3 => ?_, fun hc3 => ?_⟩
      · exact ⟨Or.inr ⟨rfl, fun x => by have := x.2.2; omega⟩, rfl, rfl⟩
      · refine ⟨fun hc5 => ?_, fun hc5 => ?_⟩
        · exact ⟨Or.inr ⟨rfl, fun x => by have := x.2.2; omega⟩, rfl, rfl⟩
        · exact ⟨Or.inl ⟨rfl, h0, h1, by omega, by omega⟩, rfl, rfl⟩
    · exfalso; omega
  have C1 : (D 4 0 ≠ 0 ∧ D 1 (4 + 0) ≠ 0) → qX mX2_isComplete GG (fun z ρ' μ' => ((z = 1 ∧ cmp D) ∨ (z = 0 ∧ ¬ cmp D)) ∧ ρ' = ρ ∧ μ' = μ) GG (0, 0) 2 [some (qP 1), some (qI 1)] [] ρ μ := by
    intro h0
    refine w_X2_isComplete_2 ?_
    refine ⟨fun hc1 => ?_, fun hc1 => ?_⟩
    · exfalso; omega
    · rw [hd.2.1, t1.1, t1.2.1]
      refine ⟨(by exact hd.i0), ?_⟩
      refine ⟨(by omega), ?_⟩
      refine ⟨fun hc10 => ?_, fun hc10 => ?_⟩
      · exact ⟨Or.inr ⟨rfl, fun x => x.2.1.1 (by omega)⟩, rfl, rfl⟩
      · refine ⟨(by omega), ?_⟩
        refine ⟨fun hc13 => ?_, fun hc13 => ?_⟩
        · refine ⟨(by unfold i32; omega), ?_⟩
          exact C2 h0 ⟨by omega, by omega⟩
        · exact ⟨Or.inr ⟨rfl, fun x => x.2.1.2 (by omega)⟩, rfl, rfl⟩
  have C0 : qX mX2_isComplete GG (fun z ρ' μ' => ((z = 1 ∧ cmp D) ∨ (z = 0 ∧ ¬ cmp D)) ∧ ρ' = ρ ∧ μ' = μ) GG (0, 0) 2 [some (qP 1), some (qI 0)] [] ρ μ := by
    refine w_X2_isComplete_2 ?_
    refine ⟨fun hc1 => ?_, fun hc1 => ?_⟩
    · exfalso; omega
    · rw [hd.2.1, t0.1, t0.2.1]
      refine ⟨(by exact hd.i0), ?_⟩
      refine ⟨(by omega), ?_⟩
      refine ⟨fun hc10 => ?_, fun hc10 => ?_⟩
      · exact ⟨Or.inr ⟨rfl, fun x => x.1.1 (by omega)⟩, rfl, rfl⟩
      · refine ⟨(by omega), ?_⟩
        refine ⟨fun hc13 => ?_, fun hc13 => ?_⟩
        · refine ⟨(by unfold i32; omega), ?_⟩
          exact C1 ⟨by omega, by omega⟩
        · exact ⟨Or.inr ⟨rfl, fun x => x.1.2 (by omega)⟩, rfl, rfl⟩
  refine e_X2_isComplete ?_
  exact C0
theorem k_clearF {o : Nat} (ho : isO 0 o) : qE mX0_clear GG GG [qP o] ρ μ (fun _ ρ' μ' => ρ' = ρ ∧ FR o (o + 3) μ μ' ∧ (∀ t, 0 ≤ t → t < 2 → μ' (o + 1) t = 0 ∧ μ' (o + 3) t = 0) ∧ μ' o 15 = 0 ∧ μ' o 16 = 0 ∧ μ' o 17 = 0) := by
  have L : ∀ (m : Nat) (x : Int) (μ1 : Mem), (2 - x).toNat < m → 0 ≤ x → x ≤ 2 → FR (o + 1) (o + 3) μ μ1 → (∀ t, 0 ≤ t → t < x → μ1 (o + 1) t = 0 ∧ μ1 (o + 3) t = 0) → qX mX0_clear GG (fun _ ρ' μ' => ρ' = ρ ∧ FR o (o + 3) μ μ' ∧ (∀ t, 0 ≤ t → t < 2 → μ' (o + 1) t = 0 ∧ μ' (o + 3) t = 0) ∧ μ' o 15 = 0 ∧ μ' o 16 = 0 ∧ μ' o 17 = 0) GG (0, 0) 2 [some (qP o), some (qI x)] [] ρ μ1 := by
    intro m
    induction m with
    | zero => intro x μ1 h; omega
    | succ m ih =>
      intro x μ1 hm x0 x1 f1 h1
      refine w_X0_clear_2 ho ?_
      refine ⟨fun hc1 => ?_, fun hc1 => ?_⟩
      · intro μ1 eμ1; subst eμ1
        intro μ2 eμ2; subst eμ2
        intro μ3 eμ3; subst eμ3
        refine ⟨rfl, FR.up (FR.up (FR.up (f1.mono (by omega) (by omega)) (by omega)) (by omega)) (by omega), fun t t0 t1 => ?_, ?_, ?_, up2_s⟩
        · rw [up2_c (by omega), up2_c (by omega), up2_c (by omega), up2_c (by omega), up2_c (by omega), up2_c (by omega)]
          exact h1 t t0 (by omega)
        · rw [up2_k (by omega), up2_k (by omega), up2_s]
        · rw [up2_k (by omega), up2_s]
      · refine ⟨(by omega), ?_⟩
        intro μ4 eμ4; subst eμ4
        refine ⟨(by omega), ?_⟩
        intro μ5 eμ5; subst eμ5
        refine ⟨(by unfold i32; omega), ?_⟩
        refine ih (x + 1) _ (by omega) (by omega) (by omega) (FR.up (FR.up f1 (by omega)) (by omega)) (fun t t0 t1 => ?_)
        rw [up2_c (by omega), up2_u, up2_u, up2_c (by omega)]
        by_cases e : t = x
        · rw [e, u1_s, u1_s]; exact ⟨rfl, rfl⟩
        · rw [u1_n e, u1_n e]; exact h1 t t0 (by omega)
  refine e_X0_clear ho ?_
  exact L _ 0 _ (Nat.lt_succ_self _) (by omega) (by omega) FR.refl (fun t t0 t1 => by omega)
end CPA
