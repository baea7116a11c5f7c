/-! ===== load ===== -/
def sLf (σ : Sg) (c e : Int) : Sg := fun a k => if a = 0 then (if k = 0 then 0 else if k = 1 then c else if k = 2 then e else if k = 3 then 4 else σ 0 k) else σ a k
def sLo (σ : Sg) (c e : Int) (d : Pl) : Sg := fun a k => if a = 0 then (if k = 0 then 0 else if k = 1 then c else if k = 2 then e else if k = 3 then 0 else if k = 4 then 1 else if k = 5 then 0 else if k = 6 then 0 else σ 0 k) else if a = 2 then d k else σ a k
section LOD
variable {ρ : Rf} {μ μ0 : Mem} {σ : Sg} {b : Int → Int} {n : Int} {f s : Nat} {D : Sg} {p : Pl}
theorem DV.ok (hv : DV b D) (hc : cmp D) : OKP (D 1) := by
  obtain ⟨h0, h1, h36, h61⟩ := hc
  have cb := hv.2.2.2.2.2.2.2.1
  have t0 := hv.1 0 (by decide) (by decide)
  have t1 := hv.1 1 (by decide) (by decide)
  have q0 := t0.2.2 h0.1
  have q1 := t1.2.2 h1.1
  have e0 := h0.2
  have e1 := h1.2
  refine ⟨⟨fun t x0 x1 => ?_, hv.2.1, hv.2.2.1, hv.2.2.2.1, hv.2.2.2.2.1, hv.2.2.2.2.2.1, hv.2.2.2.2.2.2.1, by omega⟩, ?_, ?_, hv.2.2.2.2.2.2.2.2.1, hv.2.2.2.2.2.2.2.2.2.1⟩
  · obtain rfl | rfl : t = 0 ∨ t = 1 := by omega
    · exact ⟨q0.1, q0.2.1, q0.2.2.1, by have := q0.2.2.2; omega, by omega, t0.2.1⟩
    · exact ⟨q1.1, q1.2.1, q1.2.2.1, by have := q1.2.2.2; omega, by omega, t1.2.1⟩
  · exact q0.2.2.2
  · exact q1.2.2.2
theorem FD.fp (h : FD μ f D) (hc : cmp D) : FP μ f (D 1) := by
  obtain ⟨h1, h2, h3, h4, h5, h6⟩ := h
  refine ⟨fun t t0 t1 => ?_, h2, fun m m0 m1 => (h3 m m0 m1).2, h4, h5, h6⟩
  have := h1 t t0 t1
  refine ⟨this.2.2 ?_, this.2.1⟩
  obtain rfl | rfl : t = 0 ∨ t = 1 := by omega
  · exact hc.1.1
  · exact hc.2.1.1
theorem SD.fp (h : SD μ s D) (hc : cmp D) : SP μ s (D 1) := by
  obtain ⟨h1, h2, h3, h4⟩ := h
  refine ⟨h1, fun t t0 t1 => h2 t t0 t1 ?_, h3, h4⟩
  obtain rfl | rfl : t = 0 ∨ t = 1 := by omega
  · exact hc.1.1
  · exact hc.2.1.1
theorem pT_0 (h : (pT b n).1 = 0) : cmp (pZ b n).1 := by
  by_cases c : cmp (pZ b n).1
  · exact c
  · unfold pT fn2 at h
    rw [if_neg c] at h
    exact absurd h (fR_k (by decide))
theorem pZ_v (n0 : 0 ≤ n) : DV b (pZ b n).1 := (lns_ok (b := b) (n := n) 901 D0 T0 D0_DV (T0_t n0)).1
theorem SI.lf {c e : Int} (h : SI σ) : SI (sLf σ c e) := by
  obtain ⟨a1, a2, a3, a4, a5, a6, a7, a8, a9⟩ := h
  have eh : ∀ i : Int, sLf σ c e (4 + i.toNat) = σ (4 + i.toNat) := fun i => by
    funext k
    unfold sLf
    rw [if_neg (by omega)]
  exact ⟨(by show (0:Int) ≤ 0; decide), (by show (0:Int) ≤ 900; decide), a3, a4, a5, a6, a7, a8, fun hp => ⟨(a9 hp).1, fun i i0 i1 => by rw [eh]; exact (a9 hp).2.1 i i0 i1, (a9 hp).2.2⟩⟩
theorem SI.lo {c e : Int} (h : SI σ) (ho : OKP p) : SI (sLo σ c e p) := by
  obtain ⟨a1, a2, a3, a4, a5, a6, a7, a8, a9⟩ := h
  exact ⟨(by show (0:Int) ≤ 0; decide), (by show (0:Int) ≤ 900; decide), Or.inr rfl, Or.inl rfl, (by show (0:Int) ≤ 0; decide), (by show (0:Int) ≤ 10; decide), a7, ho.2.2.2.2, fun _ => ⟨ho, fun i i0 i1 => by have : i < 0 := i1; omega, fun hq => by have : (0 : Int) = 1 := hq; omega⟩⟩
theorem k_take (r8 : isO 0 (ρ 0 8)) (r9 : isO 6 (ρ 0 9)) (r5 : ρ 1 5 = f) (r6 : ρ 1 6 = s) (i0 : isO 0 f) (i6 : isO 6 s) (fs : (f = 155 ∧ s = 171) ∨ (f = 4 ∧ s = 20)) (F : FP μ f p) (S : SP μ s p) (hv : PV p) : qE mX7_takeParsedPlan GG GG [qP 0] ρ μ (fun _ ρ' μ' => ρ' 0 8 = f ∧ ρ' 0 9 = s ∧ ρ' 1 5 = ρ 0 8 ∧ ρ' 1 6 = ρ 0 9 ∧ (∀ a, a ≠ 0 → a ≠ 1 → ρ' a = ρ a) ∧ FR 27 40 (up2 (up2 (up2 μ 0 10 1) 0 11 0) 69 1 0) μ' ∧ RP p 27 μ') := by
  refine e_X7_takeParsedPlan ?_
  refine ⟨(by exact r8), ?_⟩
  refine ⟨(by exact r9), ?_⟩
  rw [r5]
  refine ⟨(by exact i0), ?_⟩
  intro ρ4 eρ4; subst eρ4
  refine ⟨(by rw [up2_c (by decide), r6]; exact i6), ?_⟩
  intro ρ6 eρ6; subst eρ6
  refine ⟨(by exact r8), ?_⟩
  intro ρ8 eρ8; subst eρ8
  refine ⟨(by exact r9), ?_⟩
  intro ρ10 eρ10; subst eρ10
  intro μ11 eμ11; subst eμ11
  intro μ12 eμ12; subst eμ12
  intro μ13 eμ13; subst eμ13
  have e08 : up2 (up2 (up2 (up2 ρ 0 8 f) 0 9 (up2 ρ 0 8 f 1 6)) 1 5 (ρ 0 8)) 1 6 (ρ 0 9) 0 8 = f := by rw [up2_c (by decide), up2_c (by decide), up2_k (by decide), up2_s]
  have e09 : up2 (up2 (up2 (up2 ρ 0 8 f) 0 9 (up2 ρ 0 8 f 1 6)) 1 5 (ρ 0 8)) 1 6 (ρ 0 9) 0 9 = s := by rw [up2_c (by decide), up2_c (by decide), up2_s, up2_c (by decide), r6]
  rw [e08, e09]
  refine ⟨(by exact i0), ?_⟩
  refine ⟨(by exact i6), ?_⟩
  refine ⟨_, k_play (o := 27) rfl i0 i6 (((F.ag (AG.up AG.refl (by omega))).ag (AG.up AG.refl (by omega))).ag (AG.up AG.refl (by omega))) (((S.ag (AG.up AG.refl (by omega))).ag (AG.up AG.refl (by omega))).ag (AG.up AG.refl (by omega))) hv (by omega) (by omega), ?_⟩
  rintro z16 ρ17 μ18 ⟨hq16_1, f3, r3⟩
  obtain rfl := hq16_1.symm
  exact ⟨e08, e09, by rw [up2_k (by decide), up2_s], up2_s, fun a x y => by rw [up2_c y, up2_c y, up2_c x, up2_c x], f3, r3⟩
theorem CI.lf {μ' : Mem} {c e : Int} (h : CI ρ μ σ) (hS : SI σ) (hm : ∀ a, a ≠ 0 → a ≠ 1 → a ≠ 3 → (a < ρ 1 5 ∨ ρ 1 5 + 15 < a) → (a < ρ 1 6 ∨ ρ 1 6 + 6 < a) → μ' a = μ a) (h0 : ∀ k, k ≠ 12 → μ' 0 k = μ 0 k) (h12 : μ' 0 12 = 4) (h2 : μ' 1 2 = 0) (h3 : μ' 1 3 = c) (h4 : μ' 1 4 = e) : CI ρ μ' (sLf σ c e) := by
  obtain ⟨g1, g2, g3, g4, g5, g6, g7, g8, g9, g10⟩ := h
  have cf : (ρ 0 8 = 155 ∧ ρ 0 9 = 171 ∧ ρ 1 5 = 4 ∧ ρ 1 6 = 20) ∨ (ρ 0 8 = 4 ∧ ρ 0 9 = 20 ∧ ρ 1 5 = 155 ∧ ρ 1 6 = 171) := g1
  have hm' : ∀ a, 27 ≤ a → a ≤ 154 → μ' a = μ a := fun a a0 a1 => hm a (by omega) (by omega) (by omega) (by omega) (by omega)
  refine ⟨g1, g2, h2, fun k k0 k1 => by have : k < 0 := k1; omega, h3, h4, h12, by rw [h0 10 (by decide)]; exact g8, by rw [h0 11 (by decide)]; exact g9, fun hp => ?_⟩
  obtain ⟨d1, d2, d3, d4, d5⟩ := g10 hp
  refine ⟨d1.ag (fun a x y => hm a (by omega) (by omega) (by omega) (by omega) (by omega)), d2.ag (fun a x y => hm a (by omega) (by omega) (by omega) (by omega) (by omega)), ?_, ⟨by rw [hm' 69 (by omega) (by omega)]; exact d4.1, fun i i0 i1 => ?_⟩, fun hq => (d5 hq).ag (fun a x y => hm' a (by omega) (by omega))⟩
  · show RP (σ 2) 27 μ'
    unfold RP CJ
    rw [hm' (27 + 1) (by omega) (by omega), hm' (27 + 2) (by omega) (by omega), hm' (27 + 3) (by omega) (by omega), hm' (27 + 4) (by omega) (by omega), hm' (27 + 5) (by omega) (by omega), hm' (27 + 6) (by omega) (by omega), hm' (27 + 7) (by omega) (by omega), hm' (27 + 8) (by omega) (by omega), hm' (27 + 9) (by omega) (by omega), hm' 27 (by omega) (by omega)]
    exact d3
  · have q := g2.1 i i0 (by have := hS.2.2.2.2.2.1; have : i < σ 0 6 := i1; omega)
    have eh : sLf σ c e (4 + i.toNat) = σ (4 + i.toNat) := by
      funext k
      unfold sLf
      rw [if_neg (by omega)]
    show SP μ' (ρ 70 i) (sLf σ c e (4 + i.toNat))
    rw [eh]
    exact (d4.2 i i0 i1).ag (fun a x y => hm' a (by omega) (by omega))
theorem CI.lo {ρ' : Rf} {μ' : Mem} {c e : Int} (h : CI ρ μ σ) (a1 : ρ' 0 8 = ρ 1 5) (a2 : ρ' 0 9 = ρ 1 6) (a3 : ρ' 1 5 = ρ 0 8) (a4 : ρ' 1 6 = ρ 0 9) (a5 : ρ' 70 = ρ 70) (h2 : μ' 1 2 = 0) (h3 : μ' 1 3 = c) (h4 : μ' 1 4 = e) (h10 : μ' 0 10 = 1) (h11 : μ' 0 11 = 0) (h12 : μ' 0 12 = 0) (h69 : μ' 69 1 = 0) (F : FP μ' (ρ 1 5) p) (S : SP μ' (ρ 1 6) p) (R : RP p 27 μ') : CI ρ' μ' (sLo σ c e p) := by
  obtain ⟨g1, g2, g3, g4, g5, g6, g7, g8, g9, g10⟩ := h
  refine ⟨?_, ?_, h2, fun k k0 k1 => by have : k < 0 := k1; omega, h3, h4, h12, h10, h11, fun _ => ⟨?_, ?_, R, ⟨h69, fun i i0 i1 => by have : i < 0 := i1; omega⟩, fun hq => by have : (0 : Int) = 1 := hq; omega⟩⟩
  · unfold CF at g1 ⊢
    omega
  · unfold HPm at g2 ⊢
    rw [a5]
    exact g2
  · rw [a1]; exact F
  · rw [a2]; exact S
theorem c_load {x : Int} (h : CI ρ μ0 σ) (hS : SI σ) : qE mX7_load GG GG [qP 0, qI x] ρ μ0 (PC μ0 ρ (fun J => if (0 ≤ x ∧ x ≤ σ 0 0) ∧ (pT (σ 1) x).1 = 0 then (pZ (σ 1) x).1 1 87 else -2147483648) (if (0 ≤ x ∧ x ≤ σ 0 0) then (if (pT (σ 1) x).1 = 0 then sLo σ (pT (σ 1) x).1 (pT (σ 1) x).2.1 ((pZ (σ 1) x).1 1) else sLf σ (pT (σ 1) x).1 (pT (σ 1) x).2.1) else sE σ 2)) := by
  have fn := h.1.fn
  have cf : (ρ 0 8 = 155 ∧ ρ 0 9 = 171 ∧ ρ 1 5 = 4 ∧ ρ 1 6 = 20) ∨ (ρ 0 8 = 4 ∧ ρ 0 9 = 20 ∧ ρ 1 5 = 155 ∧ ρ 1 6 = 171) := h.1
  have fs : (ρ 1 5 = 155 ∧ ρ 1 6 = 171) ∨ (ρ 1 5 = 4 ∧ ρ 1 6 = 20) := by omega
  have i0 : isO 0 (ρ 1 5) := by rcases fs with e | e <;> (rw [e.1]; rfl)
  have i6 : isO 6 (ρ 1 6) := by rcases fs with e | e <;> (rw [e.2]; rfl)
  have g3 : μ0 1 2 = σ 0 0 := h.2.2.1
  have n9 := hS.2.1
  have hb : BY (σ 1) := hS.2.2.2.2.2.2.1
  refine e_X7_load ?_
  refine ⟨fun hc1 => ?_, fun hc1 => ?_⟩
  · refine ⟨_, k_fail, ?_⟩
    rintro z1 ρ2 μ3 ⟨hq2_1, hq2_2, hq2_3⟩
    obtain rfl := hq2_1.symm
    obtain rfl := hq2_2.symm
    obtain rfl := hq2_3.symm
    exact pc_fin h hS FR.refl (fun J => (if_neg (by omega)).symm) (by rw [if_neg (by omega)])
  · rw [g3]
    refine ⟨fun hc4 => ?_, fun hc4 => ?_⟩
    · refine ⟨_, k_parse (b := σ 1) (f := ρ 1 5) (s := ρ 1 6) hb (by omega) (by omega) (fun k k0 k1 => h.2.2.2.1 k k0 (by omega)) fs rfl rfl, ?_⟩
      rintro z5 ρ6 μ7 ⟨hq5_1, p3, p4, pc, pf, pk⟩
      obtain rfl := hq5_1.symm
      intro μ9 eμ9; subst eμ9
      rw [up2_k (show (3 : Int) ≠ 2 by decide), p3]
      refine ⟨fun hc7 => ?_, fun hc7 => ?_⟩
      · have hc : cmp (pZ (σ 1) x).1 := pT_0 ‹_›
        have dv := pZ_v (b := σ 1) (n := x) (by omega)
        have ok := dv.ok hc
        have F : FP (up2 μ7 1 2 0) (ρ 1 5) ((pZ (σ 1) x).1 1) := (FD.fp pc.2.2.2.1 hc).ag (AG.up AG.refl (by omega))
        have S : SP (up2 μ7 1 2 0) (ρ 1 6) ((pZ (σ 1) x).1 1) := (SD.fp pc.2.2.2.2.1 hc).ag (AG.up AG.refl (by omega))
        refine ⟨_, k_take (f := ρ 1 5) (s := ρ 1 6) h.1.f h.1.s rfl rfl i0 i6 fs F S ok.1, ?_⟩
        rintro z10 ρ11 μ12 ⟨t1, t2, t3, t4, t5, t6, t7⟩
        refine ⟨(by rw [t2]; exact i6), ?_⟩
        refine ⟨_, k_answer, ?_⟩
        rintro z15 ρ16 μ17 ⟨hq10_1, hq10_2, hq10_3⟩
        obtain rfl := hq10_1.symm
        obtain rfl := hq10_2.symm
        obtain rfl := hq10_3.symm
        have ci : 0 ≤ x ∧ x ≤ σ 0 0 := by omega
        have h0 : μ12 0 10 = 1 ∧ μ12 0 11 = 0 ∧ μ12 1 = up2 μ7 1 2 0 1 ∧ μ12 69 1 = 0 := by
          rw [t6 0 (by omega), t6 1 (by omega), t6 69 (by omega)]
          exact ⟨by rw [up2_c (by decide), up2_k (by decide), up2_s], by rw [up2_c (by decide), up2_s], by rw [up2_c (by decide), up2_c (by decide), up2_c (by decide)], up2_s⟩
        have F' : FP μ12 (ρ 1 5) ((pZ (σ 1) x).1 1) := (((F.ag (AG.up AG.refl (by omega))).ag (AG.up AG.refl (by omega))).ag (AG.up AG.refl (by omega))).ag (t6.ag (by omega))
        have S' : SP μ12 (ρ 1 6) ((pZ (σ 1) x).1 1) := (((S.ag (AG.up AG.refl (by omega))).ag (AG.up AG.refl (by omega))).ag (AG.up AG.refl (by omega))).ag (t6.ag (by omega))
        refine ⟨fun J => ?_, ?_, ?_, ?_⟩
        · rw [if_pos ⟨ci, ‹_›⟩, t2, S'.2.2.2]
        · rw [if_pos ci, if_pos ‹_›]
          refine h.lo t1 t2 t3 t4 (t5 70 (by decide) (by decide)) ?_ ?_ ?_ ?_ ?_ up2_s ?_ (F'.ag (AG.up AG.refl (by omega))) (S'.ag (AG.up AG.refl (by omega))) ?_
          · rw [up2_c (by decide), h0.2.2.1, up2_s]
          · rw [up2_c (by decide), h0.2.2.1, up2_k (by decide), p3]
          · rw [up2_c (by decide), h0.2.2.1, up2_k (by decide), p4]
          · rw [up2_k (by decide)]; exact h0.1
          · rw [up2_k (by decide)]; exact h0.2.1
          · rw [up2_c (by decide)]; exact h0.2.2.2
          · unfold RP CJ
            simp (disch := omega) only [up2_c]
            exact t7
        · refine FR.up (FR.trans ?_ (t6.mono (by omega) (by omega))) (by omega)
          refine FR.up (FR.up (FR.up (FR.up (fun a ha => ?_) (by omega)) (by omega)) (by omega)) (by omega)
          exact pf a (by omega) (by omega) (by omega) (by omega)
        · exact fun a ha => t5 a (by omega) (by omega)
      · refine ⟨_, k_fail, ?_⟩
        rintro z19 ρ20 μ21 ⟨hq12_1, hq12_2, hq12_3⟩
        obtain rfl := hq12_1.symm
        obtain rfl := hq12_2.symm
        obtain rfl := hq12_3.symm
        have ci : 0 ≤ x ∧ x ≤ σ 0 0 := by omega
        refine ⟨fun J => ?_, ?_, ?_, fun _ _ => rfl⟩
        · rw [if_neg (by omega)]
        · rw [if_pos ci, if_neg ‹_›]
          refine h.lf hS (fun a a0 a1 a3 af as => ?_) (fun k hk => ?_) up2_s ?_ ?_ ?_
          · rw [up2_c a0, up2_c a1]
            exact pf a a1 a3 af as
          · rw [up2_k hk, up2_c (by decide), pf 0 (by decide) (by decide) (by omega) (by omega)]
          · rw [up2_c (by decide), up2_s]
          · rw [up2_c (by decide), up2_k (by decide), p3]
          · rw [up2_c (by decide), up2_k (by decide), p4]
        · refine FR.up (FR.up (fun a ha => ?_) (by omega)) (by omega)
          exact pf a (by omega) (by omega) (by omega) (by omega)
    · refine ⟨_, k_fail, ?_⟩
      rintro z23 ρ24 μ25 ⟨hq14_1, hq14_2, hq14_3⟩
      obtain rfl := hq14_1.symm
      obtain rfl := hq14_2.symm
      obtain rfl := hq14_3.symm
      exact pc_fin h hS FR.refl (fun J => (if_neg (by omega)).symm) (by rw [if_neg (by omega)])
end LOD
