/-! ===== best sets and their orders: the reference ===== -/
def RS (μ0 μ' : Mem) : Prop := (∀ a, a ≠ 178 → (a < 205 ∨ 207 < a) → μ' a = μ0 a) ∧ ∀ k, k ≠ 47 → k ≠ 48 → k ≠ 49 → μ' 178 k = μ0 178 k
theorem RS.refl {μ : Mem} : RS μ μ := ⟨fun _ _ _ => rfl, fun _ _ _ _ => rfl⟩
theorem RS.trans {μ0 μ1 μ2 : Mem} (h1 : RS μ0 μ1) (h2 : RS μ1 μ2) : RS μ0 μ2 := ⟨fun a x y => (h2.1 a x y).trans (h1.1 a x y), fun k x y z => (h2.2 k x y z).trans (h1.2 k x y z)⟩
theorem RS.c {μ0 μ1 : Mem} {c : Nat} {k v : Int} (h : RS μ0 μ1) (hc : 205 ≤ c ∧ c ≤ 207) : RS μ0 (up2 μ1 c k v) := ⟨fun a x y => (up2_c (by omega)).trans (h.1 a x y), fun k x y z => by rw [up2_c (by omega)]; exact h.2 k x y z⟩
theorem RS.k {μ0 μ1 : Mem} {k v : Int} (h : RS μ0 μ1) (hk : k = 47 ∨ k = 48 ∨ k = 49) : RS μ0 (up2 μ1 178 k v) := ⟨fun a x y => (up2_c x).trans (h.1 a x y), fun j x y z => by rw [up2_k (by omega)]; exact h.2 j x y z⟩
theorem RS.mj {μ0 μ1 : Mem} {σ : Sg} (h : RS μ0 μ1) (hJ : MJ μ0 σ) : MJ μ1 σ := hJ.fr (h.1 179 (by decide) (by decide)) (h.1 180 (by decide) (by decide)) (h.1 182 (by decide) (by decide)) (h.1 183 (by decide) (by decide)) (fun k _ _ _ _ _ _ _ _ x y z => h.2 k x y z)
theorem RS.ff {μ0 μ1 μ : Mem} (h : RS μ0 μ1) (hf : FR 178 207 μ μ0) : FR 178 207 μ μ1 := fun a ha => (h.1 a (by omega) (by omega)).trans (hf a ha)
/-- the own jobs as the reference holds them -/
def MOW (μ : Mem) (p : Pl) (i : Int) : Prop := μ 178 47 = cnt p i ∧ ∀ k, 0 ≤ k → k < cnt p i → μ 205 k = ow p i k
def ECl (p : Pl) (i v : Int) (s : Nat) (c : Int) (f : Nat → Int) (n : Nat) : Prop :=
  0 ≤ c ∧ c ≤ FA ∧ (∀ k, k < n → s.testBit k = true → c ≤ oEnd p v (ow p i k) (f (s ^^^ 2 ^ k))) ∧ (c = FA ∨ ∃ k, k < n ∧ s.testBit k = true ∧ c = oEnd p v (ow p i k) (f (s ^^^ 2 ^ k)))
section MSo
variable {ρ : Rf} {μ μ0 : Mem} {p : Pl}
theorem m_carriedBy {j : Int} (hp : μ 180 = p) (hv : PV p) (h0 : 0 ≤ j) (h1 : j < p 87) : qE mX8_carriedBy GG GG [qP 178, qI j] ρ μ (fun z ρ' μ' => z = oMe p j ∧ ρ' = ρ ∧ μ' = μ) := by
  have n := hv.n
  have a := hv.j h0 h1
  refine e_X8_carriedBy ?_
  refine ⟨_, m_job (p := p) (by (repeat rw [up2_c (by decide)]); assumption) (by omega) (by omega), ?_⟩
  rintro z1 ρ2 μ3 ⟨hq1_1, hq1_2, hq1_3⟩
  obtain rfl := hq1_1.symm
  obtain rfl := hq1_2.symm
  obtain rfl := hq1_3.symm
  refine ⟨_, m_job (p := p) (by (repeat rw [up2_c (by decide)]); assumption) (by omega) (by omega), ?_⟩
  rintro z5 ρ6 μ7 ⟨hq2_1, hq2_2, hq2_3⟩
  obtain rfl := hq2_1.symm
  obtain rfl := hq2_2.symm
  obtain rfl := hq2_3.symm
  refine ⟨_, m_trolley (p := p) (by (repeat rw [up2_c (by decide)]); assumption) (by omega) (by omega), ?_⟩
  rintro z9 ρ10 μ11 ⟨hq3_1, hq3_2, hq3_3⟩
  obtain rfl := hq3_1.symm
  obtain rfl := hq3_2.symm
  obtain rfl := hq3_3.symm
  exact ⟨rfl, rfl, rfl⟩
theorem m_endOf {j t : Int} (hp : μ 180 = p) (hv : PV p) (h0 : 0 ≤ j) (h1 : j < p 87) (t0 : 0 ≤ t) (t1 : t ≤ 1000000) : qE mX8_endOf GG GG [qP 178, qI t, qI j] ρ μ (fun z ρ' μ' => z = oEnd p (spd p (p (88 + 5 * j + 0))) j t ∧ ρ' = ρ ∧ μ' = μ) := by
  have n := hv.n
  have a := hv.j h0 h1
  have b := hv.i a.1 a.2.1
  have tt := hv.t a.2.2.1 a.2.2.2.1
  have w := wk_b hv h0 h1
  have sb : 1 ≤ spd p (p (88 + 5 * j + 0)) := b.2.2.2.2.1
  have o := o_b hv h0 h1 sb
  have we : wk p j = oWb p (spd p (p (88 + 5 * j + 0))) j := rfl
  have m1 := mulb (a := oMe p j) (b := p (62 + 5 * p (88 + 5 * j + 0) + 3)) (A := 99) (B := 5) (by omega) (by omega) (by omega) (by omega)
  have m2 := mulb (a := oMe p j) (b := p (62 + 5 * p (88 + 5 * j + 0) + 4)) (A := 99) (B := 5) (by omega) (by omega) (by omega) (by omega)
  refine e_X8_endOf ?_
  refine ⟨_, m_job (p := p) (by (repeat rw [up2_c (by decide)]); assumption) (by omega) (by omega), ?_⟩
  rintro z1 ρ2 μ3 ⟨hq1_1, hq1_2, hq1_3⟩
  obtain rfl := hq1_1.symm
  obtain rfl := hq1_2.symm
  obtain rfl := hq1_3.symm
  refine ⟨_, m_carriedBy (p := p) (by assumption) (by assumption) (by omega) (by omega), ?_⟩
  rintro z5 ρ6 μ7 ⟨hq2_1, hq2_2, hq2_3⟩
  obtain rfl := hq2_1.symm
  obtain rfl := hq2_2.symm
  obtain rfl := hq2_3.symm
  refine ⟨_, m_trolley (p := p) (by (repeat rw [up2_c (by decide)]); assumption) (by omega) (by omega), ?_⟩
  rintro z9 ρ10 μ11 ⟨hq3_1, hq3_2, hq3_3⟩
  obtain rfl := hq3_1.symm
  obtain rfl := hq3_2.symm
  obtain rfl := hq3_3.symm
  refine ⟨(by unfold i32; omega), ?_⟩
  refine ⟨(by unfold i32; omega), ?_⟩
  refine ⟨_, m_walkOf (p := p) (by (repeat rw [up2_c (by decide)]); assumption) (by assumption) (by omega) (by omega), ?_⟩
  rintro z13 ρ14 μ15 ⟨hq6_1, hq6_2, hq6_3⟩
  obtain rfl := hq6_1.symm
  obtain rfl := hq6_2.symm
  obtain rfl := hq6_3.symm
  refine ⟨(by unfold i32; omega), ?_⟩
  refine ⟨_, m_job (p := p) (by (repeat rw [up2_c (by decide)]); assumption) (by omega) (by omega), ?_⟩
  rintro z17 ρ18 μ19 ⟨hq8_1, hq8_2, hq8_3⟩
  obtain rfl := hq8_1.symm
  obtain rfl := hq8_2.symm
  obtain rfl := hq8_3.symm
  rw [hp]
  refine ⟨(by unfold i32; omega), ?_⟩
  refine ⟨(by omega), ?_⟩
  refine ⟨_, m_trolley (p := p) (by (repeat rw [up2_c (by decide)]); assumption) (by omega) (by omega), ?_⟩
  rintro z21 ρ22 μ23 ⟨hq11_1, hq11_2, hq11_3⟩
  obtain rfl := hq11_1.symm
  obtain rfl := hq11_2.symm
  obtain rfl := hq11_3.symm
  refine ⟨(by unfold i32; omega), ?_⟩
  refine ⟨(by unfold i32; omega), ?_⟩
  refine ⟨_, m_job (p := p) (by (repeat rw [up2_c (by decide)]); assumption) (by omega) (by omega), ?_⟩
  rintro z25 ρ26 μ27 ⟨hq14_1, hq14_2, hq14_3⟩
  obtain rfl := hq14_1.symm
  obtain rfl := hq14_2.symm
  obtain rfl := hq14_3.symm
  rw [hp]
  refine ⟨(by unfold i32; omega), ?_⟩
  refine ⟨(by omega), ?_⟩
  refine ⟨fun hc17 => ?_, fun hc17 => ?_⟩
  · refine ⟨_, m_walkOf (p := p) (by (repeat rw [up2_c (by decide)]); assumption) (by assumption) (by omega) (by omega), ?_⟩
    rintro z29 ρ30 μ31 ⟨hq18_1, hq18_2, hq18_3⟩
    obtain rfl := hq18_1.symm
    obtain rfl := hq18_2.symm
    obtain rfl := hq18_3.symm
    refine ⟨(by unfold i32; omega), ?_⟩
    refine ⟨?_, rfl, rfl⟩
    unfold oEnd oTd oUn oAr oDe
    rw [← Int.add_assoc, if_pos (by omega), we]
  · refine ⟨?_, rfl, rfl⟩
    unfold oEnd oTd oUn oAr oDe
    rw [← Int.add_assoc, if_neg (by omega)]
    rfl
theorem m_layOwn {i : Int} (hp : μ0 180 = p) (hv : PV p) (hc : cnt p i ≤ 8) : qE mX8_layOwn GG GG [qP 178, qI i] ρ μ0 (fun _ ρ' μ' => ρ' = ρ ∧ MOW μ' p i ∧ (∀ a, a ≠ 178 → a ≠ 205 → μ' a = μ0 a) ∧ ∀ k, k ≠ 47 → μ' 178 k = μ0 178 k) := by
  have n := hv.n
  have L : ∀ (m : Nat) (x : Nat) (μ : Mem), (p 87).toNat - x < m → (x : Int) ≤ p 87 → μ 178 47 = owC p i x → (∀ k, 0 ≤ k → k < owC p i x → μ 205 k = owA p i x k) → (∀ a, a ≠ 178 → a ≠ 205 → μ a = μ0 a) → (∀ k, k ≠ 47 → μ 178 k = μ0 178 k) → qX mX8_layOwn GG (fun _ ρ' μ' => ρ' = ρ ∧ MOW μ' p i ∧ (∀ a, a ≠ 178 → a ≠ 205 → μ' a = μ0 a) ∧ ∀ k, k ≠ 47 → μ' 178 k = μ0 178 k) GG (0, 0) 7 [some (qP 178), some (qI i), some (qI (x : Int))] [] ρ μ := by
    intro m
    induction m with
    | zero => intro x μ h; omega
    | succ m ih =>
      intro x μ hm hx ec ej ha hk
      have hp1 : μ 180 = p := by rw [ha 180 (by decide) (by decide)]; exact hp
      have e1 : ((x : Int) + 1) = ((x + 1 : Nat) : Int) := by omega
      have ob := owC_b (p := p) (i := i) (m := (x : Int)) (by omega)
      have os := owC_s (p := p) (i := i) (m := (x : Int)) (by omega)
      have om := owC_m (p := p) (i := i) (m := (x : Int)) (n := p 87) (by omega) (by omega)
      have om2 := owC_m (p := p) (i := i) (m := (x : Int) + 1) (n := p 87) (by omega)
      have oc : owC p i (p 87) = cnt p i := rfl
      have oe : owA p i (x + 1) = if p (88 + 5 * (x : Int) + 0) = i then u1 (owA p i x) (owC p i x) x else owA p i x := rfl
      refine w_X8_layOwn_7 ?_
      rw [hp1]
      refine ⟨fun hc1 => ?_, fun hc1 => ?_⟩
      · have xe : (x : Int) = p 87 := by omega
        have xn : (p 87).toNat = x := by omega
        refine ⟨rfl, ⟨by rw [ec, xe]; rfl, fun k k0 k1 => ?_⟩, ha, hk⟩
        unfold ow
        rw [xn]
        exact ej k k0 (by rw [xe]; exact k1)
      · refine ⟨_, m_job (p := p) (by (repeat rw [up2_c (by decide)]); assumption) (by omega) (by omega), ?_⟩
        rintro z1 ρ2 μ3 ⟨hq3_1, hq3_2, hq3_3⟩
        obtain rfl := hq3_1.symm
        obtain rfl := hq3_2.symm
        obtain rfl := hq3_3.symm
        refine ⟨fun hc4 => ?_, fun hc4 => ?_⟩
        · have om3 := om2 (by omega)
          rw [if_pos (by omega)] at os oe
          rw [ec]
          refine ⟨(by omega), ?_⟩
          intro μ5 eμ5; subst eμ5
          refine ⟨(by rw [up2_c (by decide), ec]; unfold i32; omega), ?_⟩
          intro μ6 eμ6; subst eμ6
          refine ⟨(by unfold i32; omega), ?_⟩
          rw [e1, up2_c (by decide), ec]
          refine ih _ _ (by omega) (by omega) (by rw [up2_s, ← e1, os]) (fun k k0 k1 => ?_) (fun a h1 h2 => by rw [up2_c h1, up2_c h2]; exact ha a h1 h2) (fun k h => by rw [up2_k h, up2_c (by decide)]; exact hk k h)
          rw [up2_c (by decide), up2_u, oe]
          rw [← e1] at k1
          by_cases q : k = owC p i x
          · rw [q, u1_s, u1_s]
          · rw [u1_n q, u1_n q]
            exact ej k k0 (by omega)
        · refine ⟨(by unfold i32; omega), ?_⟩
          rw [if_neg (by omega)] at os oe
          rw [e1]
          refine ih _ _ (by omega) (by omega) (by rw [← e1, ec]; omega) (fun k k0 k1 => ?_) ha hk
          rw [oe]
          rw [← e1] at k1
          exact ej k k0 (by omega)
  refine e_X8_layOwn ?_
  intro μ1 eμ1; subst eμ1
  have z0 : owC p i ((0 : Nat) : Int) = 0 := s_I0
  exact L _ 0 _ (Nat.lt_succ_self _) (by omega) (by rw [up2_s, z0]) (fun k k0 k1 => by omega) (fun a h1 h2 => up2_c h1) (fun k h => up2_k h)
theorem m_layEnds {i t : Int} (hp : μ0 180 = p) (hv : PV p) (hc : cnt p i ≤ 8) (hO : MOW μ0 p i) (t0 : 0 ≤ t) (t1 : t < 1000000) (v0 : 1 ≤ spd p i) : qE mX8_layEnds GG GG [qP 178, qI t] ρ μ0 (fun _ ρ' μ' => ρ' = ρ ∧ EPt p i (spd p i) t (cnt p i).toNat (fun s => μ' 206 (s : Int)) ∧ ∀ a, a ≠ 206 → μ' a = μ0 a) := by
  have n := hv.n
  have c0 : 0 ≤ cnt p i := (owC_b (p := p) (i := i) hv.n.2.2.2.2.2.2.1).1
  have lt := bw_lt (cnt p i).toNat (by omega)
  have wn := Nat.two_pow_pos (cnt p i).toNat
  have cn : ((cnt p i).toNat : Int) = cnt p i := Int.toNat_of_nonneg c0
  have b1 := bw_one (cnt p i).toNat (by omega)
  rw [cn] at b1
  have M : ∀ (m : Nat) (s : Nat) (μ : Mem), 2 ^ (cnt p i).toNat - s < m → 0 < s → s ≤ 2 ^ (cnt p i).toNat → μ 206 0 = t → (∀ r : Nat, 0 < r → r < s → ECl p i (spd p i) r (μ 206 (r : Int)) (fun s => μ 206 (s : Int)) (cnt p i).toNat) → (∀ a, a ≠ 206 → μ a = μ0 a) → qX mX8_layEnds GG (fun _ ρ' μ' => ρ' = ρ ∧ EPt p i (spd p i) t (cnt p i).toNat (fun s => μ' 206 (s : Int)) ∧ ∀ a, a ≠ 206 → μ' a = μ0 a) GG (0, 0) 9 [some (qP 178), none, some (qI (s : Int)), none] [] ρ μ := by
    intro m
    induction m with
    | zero => intro s μ h; omega
    | succ m ihM =>
      intro s μ hm s0 s1 f0 fr ha
      have K : s < 2 ^ (cnt p i).toNat → ∀ (l : Nat) (k : Nat) (μ : Mem), (cnt p i).toNat - k < l → (k : Int) ≤ cnt p i → μ 206 0 = t → (∀ r : Nat, 0 < r → r < s → ECl p i (spd p i) r (μ 206 (r : Int)) (fun s => μ 206 (s : Int)) (cnt p i).toNat) → ECl p i (spd p i) s (μ 206 (s : Int)) (fun s => μ 206 (s : Int)) k → (∀ a, a ≠ 206 → μ a = μ0 a) → qX mX8_layEnds GG (fun _ ρ' μ' => ρ' = ρ ∧ EPt p i (spd p i) t (cnt p i).toNat (fun s => μ' 206 (s : Int)) ∧ ∀ a, a ≠ 206 → μ' a = μ0 a) GG (0, 0) 30 [some (qP 178), none, some (qI (s : Int)), some (qI (k : Int))] [] ρ μ := by
        intro sl l
        induction l with
        | zero => intro k μ h; omega
        | succ l ih =>
          intro k μ hl hk f0 fr fs ha
          have e1 : ((k : Int) + 1) = ((k + 1 : Nat) : Int) := by omega
          have es : ((s : Int) + 1) = ((s + 1 : Nat) : Int) := by omega
          have hp1 : μ 180 = p := by rw [ha 180 (by decide)]; exact hp
          have h47 : μ 178 47 = cnt p i := by rw [ha 178 (by decide)]; exact hO.1
          have H : ∀ (ν : Mem), ν 206 0 = t → (∀ r : Nat, 0 < r → r < s → ECl p i (spd p i) r (ν 206 (r : Int)) (fun s => ν 206 (s : Int)) (cnt p i).toNat) → ECl p i (spd p i) s (ν 206 (s : Int)) (fun s => ν 206 (s : Int)) (k + 1) → (∀ a, a ≠ 206 → ν a = μ0 a) → (k : Int) < cnt p i → qX mX8_layEnds GG (fun _ ρ' μ' => ρ' = ρ ∧ EPt p i (spd p i) t (cnt p i).toNat (fun s => μ' 206 (s : Int)) ∧ ∀ a, a ≠ 206 → μ' a = μ0 a) GG (0, 0) 100 [some (qP 178), none, some (qI (s : Int)), some (qI (k : Int))] [] ρ ν := by
            intro ν g0 gr gs ga gk
            refine w_X8_layEnds_100 ?_
            refine ⟨(by unfold i32; omega), ?_⟩
            rw [e1]
            exact ih (k + 1) ν (by omega) (by omega) g0 gr gs ga
          refine w_X8_layEnds_30 ?_
          rw [h47]
          refine ⟨fun hc1 => ?_, fun hc1 => ?_⟩
          · refine ⟨(by unfold i32; omega), ?_⟩
            rw [es]
            refine ihM (s + 1) μ (by omega) (by omega) (by omega) f0 (fun r r0 r1 => ?_) ha
            by_cases q : r = s
            · subst q
              rw [show (cnt p i).toNat = k by omega]
              exact fs
            · exact fr r r0 (by omega)
          · have tb := bw_tab s (by omega) k (by omega)
            have oj := ow_j (p := p) (i := i) (k := (k : Int)) hv.n.2.2.2.2.2.2.1 (by omega) (by omega)
            have o205 : μ 205 (k : Int) = ow p i k := by rw [ha 205 (by decide)]; exact hO.2 _ (by omega) (by omega)
            rw [tb.1]
            refine ⟨fun hc4 => ?_, fun hc4 => ?_⟩
            · have f : s.testBit k = false := by
                cases q : s.testBit k
                · rfl
                · rw [q] at hc4; exact absurd hc4 (by decide)
              refine H μ f0 fr ⟨fs.1, fs.2.1, fun j hj hb => ?_, ?_⟩ ha (by omega)
              · by_cases q : j = k
                · subst q; rw [f] at hb; cases hb
                · exact fs.2.2.1 j (by omega) hb
              · rcases fs.2.2.2 with z | ⟨j, hj, hb, z⟩
                · exact Or.inl z
                · exact Or.inr ⟨j, by omega, hb, z⟩
            · have f : s.testBit k = true := by
                cases q : s.testBit k
                · rw [q] at hc4; exact absurd rfl hc4
                · rfl
              have lx := tb.2.2.2.1 f
              rw [tb.2.1, o205]
              have fx : 0 ≤ μ 206 ((s ^^^ 2 ^ k : Nat) : Int) ∧ μ 206 ((s ^^^ 2 ^ k : Nat) : Int) ≤ 1000000 := by
                by_cases q : s ^^^ 2 ^ k = 0
                · rw [q]
                  have : μ 206 ((0 : Nat) : Int) = t := f0
                  omega
                · have := fr (s ^^^ 2 ^ k) (by omega) lx
                  exact ⟨this.1, this.2.1⟩
              refine ⟨(by omega), ?_⟩
              refine ⟨fun hc7 => ?_, fun hc7 => ?_⟩
              · refine ⟨(by omega), ?_⟩
                refine ⟨(by omega), ?_⟩
                refine ⟨(by omega), ?_⟩
                refine ⟨_, m_endOf hp1 hv oj.1 oj.2.1 fx.1 fx.2, ?_⟩
                rintro z1 ρ2 μ3 ⟨hq11_1, hq11_2, hq11_3⟩
                obtain rfl := hq11_1.symm
                obtain rfl := hq11_2.symm
                obtain rfl := hq11_3.symm
                rw [oj.2.2]
                refine ⟨(by omega), ?_⟩
                intro μ5 eμ5; subst eμ5
                have mo := oEnd_m hv oj.1 oj.2.1 v0 fx.1
                refine H _ (by rw [up2_k (by omega)]; exact f0) (fun r r0 r1 => ?_) ?_ (fun a h => by rw [up2_c h]; exact ha a h) (by omega)
                · have := fr r r0 r1
                  refine ⟨by rw [up2_k (by omega)]; exact this.1, by rw [up2_k (by omega)]; exact this.2.1, fun j hj hb => ?_, ?_⟩
                  · have lj := (bw_tab r (by omega) j (by omega)).2.2.2.1 hb
                    show up2 μ 206 (s : Int) _ 206 (r : Int) ≤ oEnd p (spd p i) (ow p i j) (up2 μ 206 (s : Int) _ 206 ((r ^^^ 2 ^ j : Nat) : Int))
                    rw [up2_k (by omega), up2_k (by omega)]
                    exact this.2.2.1 j hj hb
                  · rcases this.2.2.2 with z | ⟨j, hj, hb, z⟩
                    · exact Or.inl (by rw [up2_k (by omega)]; exact z)
                    · have lj := (bw_tab r (by omega) j (by omega)).2.2.2.1 hb
                      refine Or.inr ⟨j, hj, hb, ?_⟩
                      show up2 μ 206 (s : Int) _ 206 (r : Int) = oEnd p (spd p i) (ow p i j) (up2 μ 206 (s : Int) _ 206 ((r ^^^ 2 ^ j : Nat) : Int))
                      rw [up2_k (by omega), up2_k (by omega)]
                      exact z
                · rw [up2_s]
                  have fs1 := fs.1
                  have fs2 := fs.2.1
                  refine ⟨by omega, by omega, fun j hj hb => ?_, ?_⟩
                  · have lj := (bw_tab s (by omega) j (by omega)).2.2.2.1 hb
                    show min _ _ ≤ oEnd p (spd p i) (ow p i j) (up2 μ 206 (s : Int) _ 206 ((s ^^^ 2 ^ j : Nat) : Int))
                    rw [up2_k (by omega)]
                    by_cases q : j = k
                    · subst q; omega
                    · have := fs.2.2.1 j (by omega) hb
                      have this2 : μ 206 (s : Int) ≤ oEnd p (spd p i) (ow p i j) (μ 206 ((s ^^^ 2 ^ j : Nat) : Int)) := this
                      omega
                  · by_cases q : μ 206 (s : Int) ≤ oEnd p (spd p i) (ow p i k) (μ 206 ((s ^^^ 2 ^ k : Nat) : Int))
                    · rcases fs.2.2.2 with z | ⟨j, hj, hb, z⟩
                      · exact Or.inl (by omega)
                      · have lj := (bw_tab s (by omega) j (by omega)).2.2.2.1 hb
                        refine Or.inr ⟨j, by omega, hb, ?_⟩
                        show min _ _ = oEnd p (spd p i) (ow p i j) (up2 μ 206 (s : Int) _ 206 ((s ^^^ 2 ^ j : Nat) : Int))
                        rw [up2_k (by omega)]
                        have z2 : μ 206 (s : Int) = oEnd p (spd p i) (ow p i j) (μ 206 ((s ^^^ 2 ^ j : Nat) : Int)) := z
                        omega
                    · refine Or.inr ⟨k, by omega, f, ?_⟩
                      show min _ _ = oEnd p (spd p i) (ow p i k) (up2 μ 206 (s : Int) _ 206 ((s ^^^ 2 ^ k : Nat) : Int))
                      rw [up2_k (by omega)]
                      omega
              · refine H μ f0 fr ⟨fs.1, fs.2.1, fun j hj hb => ?_, ?_⟩ ha (by omega)
                · by_cases q : j = k
                  · subst q
                    show _ ≤ oEnd p (spd p i) (ow p i j) (μ 206 ((s ^^^ 2 ^ j : Nat) : Int))
                    have z : μ 206 ((s ^^^ 2 ^ j : Nat) : Int) = FA := by unfold FA; omega
                    rw [z, oEnd_far hv oj.1 oj.2.1 v0]
                    exact fs.2.1
                  · exact fs.2.2.1 j (by omega) hb
                · rcases fs.2.2.2 with z | ⟨j, hj, hb, z⟩
                  · exact Or.inl z
                  · exact Or.inr ⟨j, by omega, hb, z⟩
      have h47 : μ 178 47 = cnt p i := by rw [ha 178 (by decide)]; exact hO.1
      refine w_X8_layEnds_9 ?_
      rw [h47, b1]
      refine ⟨fun hc1 => ?_, fun hc1 => ?_⟩
      · have se : s = 2 ^ (cnt p i).toNat := by omega
        refine ⟨rfl, ⟨f0, fun r r0 r1 => fr r r0 (by omega)⟩, ha⟩
      · refine ⟨(by omega), ?_⟩
        intro μ1 eμ1; subst eμ1
        refine K (by omega) _ 0 _ (Nat.lt_succ_self _) (by omega) (by rw [up2_k (by omega)]; exact f0) (fun r r0 r1 => ?_) ⟨by rw [up2_s]; omega, by rw [up2_s]; exact Int.le_refl _, fun j hj => by omega, Or.inl (by rw [up2_s]; rfl)⟩ (fun a h => by rw [up2_c h]; exact ha a h)
        have := fr r r0 r1
        refine ⟨by rw [up2_k (by omega)]; exact this.1, by rw [up2_k (by omega)]; exact this.2.1, fun j hj hb => ?_, ?_⟩
        · have lj := (bw_tab r (by omega) j (by omega)).2.2.2.1 hb
          show up2 μ 206 (s : Int) _ 206 (r : Int) ≤ oEnd p (spd p i) (ow p i j) (up2 μ 206 (s : Int) _ 206 ((r ^^^ 2 ^ j : Nat) : Int))
          rw [up2_k (by omega), up2_k (by omega)]
          exact this.2.2.1 j hj hb
        · rcases this.2.2.2 with z | ⟨j, hj, hb, z⟩
          · exact Or.inl (by rw [up2_k (by omega)]; exact z)
          · have lj := (bw_tab r (by omega) j (by omega)).2.2.2.1 hb
            refine Or.inr ⟨j, hj, hb, ?_⟩
            show up2 μ 206 (s : Int) _ 206 (r : Int) = oEnd p (spd p i) (ow p i j) (up2 μ 206 (s : Int) _ 206 ((r ^^^ 2 ^ j : Nat) : Int))
            rw [up2_k (by omega), up2_k (by omega)]
            exact z
  refine e_X8_layEnds ?_
  intro μ1 eμ1; subst eμ1
  exact M _ 1 _ (Nat.lt_succ_self _) (by omega) (by omega) up2_s (fun r r0 r1 => by omega) (fun a h => up2_c h)
end MSo
