/-! ===== best sets and orders: the reference's questions ===== -/
section MBe
variable {ρ : Rf} {μ μ0 : Mem} {p : Pl} {σ : Sg}
theorem m_bestOf {i : Int} (hp : μ0 180 = p) (hv : PV p) (hc : cnt p i ≤ 8) (v0 : 1 ≤ spd p i) : qE mX8_bestOf GG GG [qP 178, qI i] ρ μ0 (fun z ρ' μ' => z = (bst p i : Int) ∧ ρ' = ρ ∧ RS μ0 μ' ∧ MOW μ' p i ∧ μ' 178 49 = sm p i (bst p i)) := by
  have n := hv.n
  have c0 : 0 ≤ cnt p i := (owC_b (p := p) (i := i) hv.n.2.2.2.2.2.2.1).1
  have lt := bw_lt (cnt p i).toNat (by omega)
  have wn := Nat.two_pow_pos (cnt p i).toNat
  have cn : ((cnt p i).toNat : Int) = cnt p i := Int.toNat_of_nonneg c0
  have b1 := bw_one (cnt p i).toNat (by omega)
  rw [cn] at b1
  have M : ∀ (m : Nat) (x : Nat) (μ : Mem), 2 ^ (cnt p i).toNat - x < m → x + 1 ≤ 2 ^ (cnt p i).toNat → RS μ0 μ → MOW μ p i → EPt p i (spd p i) 0 (cnt p i).toNat (fun s => μ 206 (s : Int)) → μ 178 49 = sm p i (bs p i (spd p i) x) → qX mX8_bestOf GG (fun z ρ' μ' => z = (bst p i : Int) ∧ ρ' = ρ ∧ RS μ0 μ' ∧ MOW μ' p i ∧ μ' 178 49 = sm p i (bst p i)) GG (0, 0) 19 [some (qP 178), none, some (qI (bs p i (spd p i) x : Int)), some (qI ((x : Int) + 1)), none, none] [] ρ μ := by
    intro m
    induction m with
    | zero => intro x μ h; omega
    | succ m ihM =>
      intro x μ hm x0 hR hO hE h49
      have hp1 : μ 180 = p := by rw [hR.1 180 (by decide) (by decide)]; exact hp
      have e1 : ((x : Int) + 1) = ((x + 1 : Nat) : Int) := by omega
      have es : (((x : Int) + 1) + 1) = ((x + 1 : Nat) : Int) + 1 := by omega
      have eb : bs p i (spd p i) (x + 1) = if 0 ≤ gT p i (spd p i) (x + 1) ∧ sm p i (bs p i (spd p i) x) < sm p i (x + 1) then x + 1 else bs p i (spd p i) x := rfl
      have L : x + 1 < 2 ^ (cnt p i).toNat → 0 ≤ gT p i (spd p i) (x + 1) → ∀ (l : Nat) (k : Nat), (cnt p i).toNat - k < l → (k : Int) ≤ cnt p i → qX mX8_bestOf GG (fun z ρ' μ' => z = (bst p i : Int) ∧ ρ' = ρ ∧ RS μ0 μ' ∧ MOW μ' p i ∧ μ' 178 49 = sm p i (bst p i)) GG (0, 0) 50 [some (qP 178), none, some (qI (bs p i (spd p i) x : Int)), some (qI ((x : Int) + 1)), some (qI (smk p i (x + 1) k)), some (qI (k : Int))] [] ρ μ := by
        intro xl xg l
        induction l with
        | zero => intro k h; omega
        | succ l ih =>
          intro k hl hk
          have ek : ((k : Int) + 1) = ((k + 1 : Nat) : Int) := by omega
          have sk := smk_b hv (i := i) (s := x + 1) k hk
          refine w_X8_bestOf_50 ?_
          rw [hO.1, h49]
          refine ⟨fun hc1 => ?_, fun hc1 => ?_⟩
          · have se : smk p i (x + 1) k = sm p i (x + 1) := by unfold sm; rw [show (cnt p i).toNat = k by omega]
            refine ⟨fun hc2 => ?_, fun hc2 => ?_⟩
            · intro μ1 eμ1; subst eμ1
              refine ⟨(by unfold i32; omega), ?_⟩
              rw [if_pos ⟨xg, by omega⟩] at eb
              have := ihM (x + 1) (up2 μ 178 49 (smk p i (x + 1) k)) (by omega) (by omega) (hR.k (Or.inr (Or.inr rfl))) ⟨by rw [up2_k (by decide)]; exact hO.1, fun k k0 k1 => by rw [up2_c (by decide)]; exact hO.2 k k0 k1⟩ (by rw [up2_c (by decide)]; exact hE) (by rw [up2_s, eb, se])
              rw [eb] at this
              rw [e1]
              exact this
            · refine ⟨(by unfold i32; omega), ?_⟩
              rw [if_neg (by omega)] at eb
              have := ihM (x + 1) μ (by omega) (by omega) hR hO hE (by rw [eb]; exact h49)
              rw [eb] at this
              rw [e1]
              exact this
          · have oj := ow_j (p := p) (i := i) (k := (k : Int)) hv.n.2.2.2.2.2.2.1 (by omega) (by omega)
            have o := o_b hv oj.1 oj.2.1 v0
            rw [hO.2 _ (by omega) (by omega)]
            have tb := (bw_tab (x + 1) (by omega) k (by omega)).1
            rw [← e1] at tb
            rw [tb]
            have e : smk p i (x + 1) (k + 1) = if (x + 1).testBit k then smk p i (x + 1) k + oMe p (ow p i k) else smk p i (x + 1) k := rfl
            have ee : smk p i (x + 1) k + (if (x + 1).testBit k then 1 else 0) * oMe p (ow p i k) = smk p i (x + 1) (k + 1) := by
              rw [e]
              split
              · rw [Int.one_mul]
              · rw [Int.zero_mul, Int.add_zero]
            have sk1 := smk_b hv (i := i) (s := x + 1) (k + 1) (by omega)
            have tz : (0 : Int) ≤ (if (x + 1).testBit k then 1 else 0) * oMe p (ow p i k) ∧ (if (x + 1).testBit k then (1 : Int) else 0) * oMe p (ow p i k) ≤ 99 := by
              split
              · rw [Int.one_mul]; omega
              · rw [Int.zero_mul]; omega
            refine ⟨(by omega), ?_⟩
            refine ⟨_, m_carriedBy hp1 hv oj.1 oj.2.1, ?_⟩
            rintro z2 ρ3 μ4 ⟨hq9_1, hq9_2, hq9_3⟩
            obtain rfl := hq9_1.symm
            obtain rfl := hq9_2.symm
            obtain rfl := hq9_3.symm
            refine ⟨(by unfold i32; omega), ?_⟩
            refine ⟨(by unfold i32; omega), ?_⟩
            refine ⟨(by unfold i32; omega), ?_⟩
            rw [ee, ek]
            exact ih (k + 1) (by omega) (by omega)
      refine w_X8_bestOf_19 ?_
      rw [hO.1, b1]
      refine ⟨fun hc1 => ?_, fun hc1 => ?_⟩
      · have xe : x = 2 ^ (cnt p i).toNat - 1 := by omega
        have be : bs p i (spd p i) x = bst p i := by rw [xe]; rfl
        exact ⟨by rw [be], rfl, hR, hO, by rw [h49, be]⟩
      · refine ⟨(by omega), ?_⟩
        have g := EP_g hv (w := x + 1) cn hc v0 hE (Int.le_refl _) (by decide) (by omega)
        have fb : μ 206 ((x + 1 : Nat) : Int) ≤ FA := (hE.2 (x + 1) (by omega) (by omega)).2.1
        rw [← e1] at fb g
        unfold FA at fb g
        refine ⟨fun hc4 => ?_, fun hc4 => ?_⟩
        · exact L (by omega) (g.mp (by omega)) _ 0 (Nat.lt_succ_self _) (by omega)
        · refine ⟨(by unfold i32; omega), ?_⟩
          rw [if_neg (fun q => by have := g.mpr q.1; omega)] at eb
          have := ihM (x + 1) μ (by omega) (by omega) hR hO hE (by rw [eb]; exact h49)
          rw [eb] at this
          rw [e1]
          exact this
  refine e_X8_bestOf ?_
  refine ⟨_, m_layOwn hp hv hc, ?_⟩
  rintro z1 ρ2 μ3 ⟨hq1_1, hO, ha, hk⟩
  obtain rfl := hq1_1.symm
  have hp1 : μ3 180 = p := by rw [ha 180 (by decide) (by decide)]; exact hp
  refine ⟨_, m_layEnds hp1 hv hc hO (Int.le_refl _) (by decide) v0, ?_⟩
  rintro z5 ρ6 μ7 ⟨hq2_1, hE, hb⟩
  obtain rfl := hq2_1.symm
  intro μ9 eμ9; subst eμ9
  have R1 : RS μ0 μ3 := ⟨fun a x y => ha a x (by omega), fun k x y z => hk k x⟩
  have R2 : RS μ0 μ7 := R1.trans ⟨fun a x y => hb a (by omega), fun k x y z => by rw [hb 178 (by decide)]⟩
  exact M _ 0 _ (Nat.lt_succ_self _) (by omega) (R2.k (Or.inr (Or.inr rfl))) ⟨by rw [up2_k (by decide), hb 178 (by decide)]; exact hO.1, fun k k0 k1 => by rw [up2_c (by decide), hb 205 (by decide)]; exact hO.2 k k0 k1⟩ (by rw [up2_c (by decide)]; exact hE) (by rw [up2_s]; exact sm_0.symm)
theorem m_layOrder {i : Int} (hp : μ0 180 = p) (hv : PV p) (hc : cnt p i ≤ 8) (v0 : 1 ≤ spd p i) : qE mX8_layOrder GG GG [qP 178, qI i] ρ μ0 (fun _ ρ' μ' => ρ' = ρ ∧ RS μ0 μ' ∧ MOW μ' p i ∧ ORD p i (spd p i) (bst p i) (μ' 178 48) (μ' 207)) := by
  have n := hv.n
  have c0 : 0 ≤ cnt p i := (owC_b (p := p) (i := i) hv.n.2.2.2.2.2.2.1).1
  have lt := bw_lt (cnt p i).toNat (by omega)
  have wn := Nat.two_pow_pos (cnt p i).toNat
  have cn : ((cnt p i).toNat : Int) = cnt p i := Int.toNat_of_nonneg c0
  have bb := bst_b (p := p) (i := i) c0
  have M : ∀ (m : Nat) (q : Nat) (r : Nat) (t : Int) (μ : Mem), pc8 r < m → oS p i (spd p i) (bst p i) q = (r, t) → r < 2 ^ (cnt p i).toNat → 0 ≤ t → t < FA → t ≤ gT p i (spd p i) r → q + pc8 r ≤ (cnt p i).toNat → μ 178 48 = (q : Int) → (∀ j : Nat, j < q → (oS p i (spd p i) (bst p i) j).1 ≠ 0 ∧ μ 207 j = oK p i (spd p i) (bst p i) j) → RS μ0 μ → MOW μ p i → qX mX8_layOrder GG (fun _ ρ' μ' => ρ' = ρ ∧ RS μ0 μ' ∧ MOW μ' p i ∧ ORD p i (spd p i) (bst p i) (μ' 178 48) (μ' 207)) GG (0, 0) 13 [some (qP 178), none, some (qI (r : Int)), some (qI t), none, none, none] [] ρ μ := by
    intro m
    induction m with
    | zero => intro q r t μ h; omega
    | succ m ihM =>
      intro q r t μ hm he hr t0 t1 hg hpc h48 h207 hR hO
      have F : r ≠ 0 → ∀ (μ : Mem), μ 178 48 = (q : Int) → (∀ j : Nat, j < q → (oS p i (spd p i) (bst p i) j).1 ≠ 0 ∧ μ 207 j = oK p i (spd p i) (bst p i) j) → RS μ0 μ → MOW μ p i → qX mX8_layOrder GG (fun _ ρ' μ' => ρ' = ρ ∧ RS μ0 μ' ∧ MOW μ' p i ∧ ORD p i (spd p i) (bst p i) (μ' 178 48) (μ' 207)) GG (0, 0) 23 [some (qP 178), none, some (qI (r : Int)), some (qI t), some (qI (fs p i (spd p i) r t : Int)), some (qI 1), none] [] ρ μ := by
        intro r0 μ h48 h207 hR hO
        have hp1 : μ 180 = p := by rw [hR.1 180 (by decide) (by decide)]; exact hp
        have fe := fit_ex hv hc v0 hr r0 t0 hg
        have oj := ow_j (p := p) (i := i) (k := ((fs p i (spd p i) r t : Nat) : Int)) hv.n.2.2.2.2.2.2.1 (by omega) (by omega)
        have fb := (fit_iff.mp fe.2.1).1
        have tb := bw_tab r (by omega) (fs p i (spd p i) r t) (by omega)
        have tl := tb.2.2.2.1 fb
        have pcx := pc_x (by omega : r < 256) (by omega : fs p i (spd p i) r t < 8) fb
        have mo := oEnd_m hv oj.1 oj.2.1 v0 t0
        refine w_X8_layOrder_23 ?_
        refine ⟨fun hc1 => ?_, fun hc1 => ?_⟩
        · rw [hO.2 _ (by omega) fe.1]
          refine ⟨(by omega), ?_⟩
          refine ⟨_, m_endOf hp1 hv oj.1 oj.2.1 t0 (by unfold FA at t1; omega), ?_⟩
          rintro z1 ρ2 μ3 ⟨hq3_1, hq3_2, hq3_3⟩
          obtain rfl := hq3_1.symm
          obtain rfl := hq3_2.symm
          obtain rfl := hq3_3.symm
          rw [oj.2.2, hO.2 _ (by omega) fe.1]
          refine ⟨(by omega), ?_⟩
          refine ⟨(by rw [h48]; omega), ?_⟩
          intro μ5 eμ5; subst eμ5
          refine ⟨(by rw [up2_c (by decide), h48]; unfold i32; omega), ?_⟩
          intro μ6 eμ6; subst eμ6
          rw [h48, tb.2.1]
          have ee : oS p i (spd p i) (bst p i) (q + 1) = (r ^^^ 2 ^ fs p i (spd p i) r t, oEnd p (spd p i) (ow p i (fs p i (spd p i) r t)) t) := by
            show (if _ then _ else _) = _
            rw [he, if_neg r0]
          refine ihM (q + 1) _ _ _ (by omega) ee (by omega) mo.1 fe.2.2.1 fe.2.2.2 (by omega) (by rw [up2_s, up2_c (by decide), h48]; omega) (fun j hj => ?_) ((hR.c (by omega)).k (Or.inr (Or.inl rfl))) ⟨by rw [up2_k (by decide), up2_c (by decide)]; exact hO.1, fun k k0 k1 => by rw [up2_c (by decide), up2_c (by decide)]; exact hO.2 k k0 k1⟩
          rw [up2_c (by decide)]
          by_cases jq : j = q
          · subst jq
            rw [up2_s, he]
            refine ⟨r0, ?_⟩
            unfold oK
            rw [he]
          · rw [up2_k (by omega)]
            exact h207 j (by omega)
        · exact absurd hc1 (by decide)
      have T : r ≠ 0 → ∀ (l : Nat) (k : Nat) (μ : Mem), (cnt p i).toNat - k = l → (k : Int) ≤ cnt p i → fs p i (spd p i) r t = fsF p i (spd p i) r t l k → μ 178 48 = (q : Int) → (∀ j : Nat, j < q → (oS p i (spd p i) (bst p i) j).1 ≠ 0 ∧ μ 207 j = oK p i (spd p i) (bst p i) j) → RS μ0 μ → MOW μ p i → (∃ j, k ≤ j ∧ j < k + l ∧ fit p i (spd p i) r t j = true) → qX mX8_layOrder GG (fun _ ρ' μ' => ρ' = ρ ∧ RS μ0 μ' ∧ MOW μ' p i ∧ ORD p i (spd p i) (bst p i) (μ' 178 48) (μ' 207)) GG (0, 0) 23 [some (qP 178), none, some (qI (r : Int)), some (qI t), some (qI (k : Int)), some (qI 0), none] [] ρ μ := by
        intro r0 l
        induction l with
        | zero => intro k μ h1 h2 h3 h4 h5 h6 h7 ⟨j, a, b, c⟩; omega
        | succ l ih =>
          intro k μ hl hk hf h48 h207 hR hO hex
          have hp1 : μ 180 = p := by rw [hR.1 180 (by decide) (by decide)]; exact hp
          have ek : ((k : Int) + 1) = ((k + 1 : Nat) : Int) := by omega
          have e : fsF p i (spd p i) r t (l + 1) k = if fit p i (spd p i) r t k then k else fsF p i (spd p i) r t l (k + 1) := rfl
          have tb := bw_tab r (by omega) k (by omega)
          have oj := ow_j (p := p) (i := i) (k := (k : Int)) hv.n.2.2.2.2.2.2.1 (by omega) (by omega)
          have o := o_le hv oj.1 oj.2.1 v0 t0 (x := gT p i (spd p i) (r ^^^ 2 ^ k))
          have mo := oEnd_m hv oj.1 oj.2.1 v0 t0
          have N : ¬ fit p i (spd p i) r t k = true → ∀ ν, ν 178 48 = (q : Int) → (∀ j : Nat, j < q → (oS p i (spd p i) (bst p i) j).1 ≠ 0 ∧ ν 207 j = oK p i (spd p i) (bst p i) j) → RS μ0 ν → MOW ν p i → qX mX8_layOrder GG (fun _ ρ' μ' => ρ' = ρ ∧ RS μ0 μ' ∧ MOW μ' p i ∧ ORD p i (spd p i) (bst p i) (μ' 178 48) (μ' 207)) GG (0, 0) 23 [some (qP 178), none, some (qI (r : Int)), some (qI t), some (qI ((k : Int) + 1)), some (qI 0), none] [] ρ ν := by
            intro nf ν g48 g207 gR gO
            rw [if_neg nf] at e
            rw [ek]
            refine ih (k + 1) ν (by omega) (by omega) (by rw [hf, e]) g48 g207 gR gO ?_
            obtain ⟨j, a, b, c⟩ := hex
            have jk : j ≠ k := fun h => nf (h ▸ c)
            exact ⟨j, by omega, by omega, c⟩
          have N104 : ¬ fit p i (spd p i) r t k = true → ∀ ν, ν 178 48 = (q : Int) → (∀ j : Nat, j < q → (oS p i (spd p i) (bst p i) j).1 ≠ 0 ∧ ν 207 j = oK p i (spd p i) (bst p i) j) → RS μ0 ν → MOW ν p i → qX mX8_layOrder GG (fun _ ρ' μ' => ρ' = ρ ∧ RS μ0 μ' ∧ MOW μ' p i ∧ ORD p i (spd p i) (bst p i) (μ' 178 48) (μ' 207)) GG (0, 0) 104 [some (qP 178), none, some (qI (r : Int)), some (qI t), some (qI ((k : Int) + 1)), some (qI 0), none] [] ρ ν := by
            intro nf ν g48 g207 gR gO
            refine w_X8_layOrder_104 ?_
            exact N nf ν g48 g207 gR gO
          have N96 : ¬ fit p i (spd p i) r t k = true → ∀ ν, ν 178 48 = (q : Int) → (∀ j : Nat, j < q → (oS p i (spd p i) (bst p i) j).1 ≠ 0 ∧ ν 207 j = oK p i (spd p i) (bst p i) j) → RS μ0 ν → MOW ν p i → qX mX8_layOrder GG (fun _ ρ' μ' => ρ' = ρ ∧ RS μ0 μ' ∧ MOW μ' p i ∧ ORD p i (spd p i) (bst p i) (μ' 178 48) (μ' 207)) GG (0, 0) 96 [some (qP 178), none, some (qI (r : Int)), some (qI t), some (qI (k : Int)), some (qI 0), none] [] ρ ν := by
            intro nf ν g48 g207 gR gO
            refine w_X8_layOrder_96 ?_
            refine ⟨fun hc1 => ?_, fun hc1 => ?_⟩
            · exact absurd rfl hc1
            · refine ⟨(by unfold i32; omega), ?_⟩
              exact N104 nf ν g48 g207 gR gO
          have N94 : ¬ fit p i (spd p i) r t k = true → ∀ ν, ν 178 48 = (q : Int) → (∀ j : Nat, j < q → (oS p i (spd p i) (bst p i) j).1 ≠ 0 ∧ ν 207 j = oK p i (spd p i) (bst p i) j) → RS μ0 ν → MOW ν p i → qX mX8_layOrder GG (fun _ ρ' μ' => ρ' = ρ ∧ RS μ0 μ' ∧ MOW μ' p i ∧ ORD p i (spd p i) (bst p i) (μ' 178 48) (μ' 207)) GG (0, 0) 94 [some (qP 178), none, some (qI (r : Int)), some (qI t), some (qI (k : Int)), none, none] [qI 0] ρ ν := by
            intro nf ν g48 g207 gR gO
            refine w_X8_layOrder_94 ?_
            exact N96 nf ν g48 g207 gR gO
          have Y104 : fs p i (spd p i) r t = k → ∀ ν, ν 178 48 = (q : Int) → (∀ j : Nat, j < q → (oS p i (spd p i) (bst p i) j).1 ≠ 0 ∧ ν 207 j = oK p i (spd p i) (bst p i) j) → RS μ0 ν → MOW ν p i → qX mX8_layOrder GG (fun _ ρ' μ' => ρ' = ρ ∧ RS μ0 μ' ∧ MOW μ' p i ∧ ORD p i (spd p i) (bst p i) (μ' 178 48) (μ' 207)) GG (0, 0) 104 [some (qP 178), none, some (qI (r : Int)), some (qI t), some (qI (k : Int)), some (qI 1), none] [] ρ ν := by
            intro fk ν g48 g207 gR gO
            refine w_X8_layOrder_104 ?_
            have := F r0 ν g48 g207 gR gO
            rw [fk] at this
            exact this
          have Y96 : fs p i (spd p i) r t = k → ∀ ν, ν 178 48 = (q : Int) → (∀ j : Nat, j < q → (oS p i (spd p i) (bst p i) j).1 ≠ 0 ∧ ν 207 j = oK p i (spd p i) (bst p i) j) → RS μ0 ν → MOW ν p i → qX mX8_layOrder GG (fun _ ρ' μ' => ρ' = ρ ∧ RS μ0 μ' ∧ MOW μ' p i ∧ ORD p i (spd p i) (bst p i) (μ' 178 48) (μ' 207)) GG (0, 0) 96 [some (qP 178), none, some (qI (r : Int)), some (qI t), some (qI (k : Int)), some (qI 1), none] [] ρ ν := by
            intro fk ν g48 g207 gR gO
            refine w_X8_layOrder_96 ?_
            refine ⟨fun hc1 => ?_, fun hc1 => ?_⟩
            · exact Y104 fk ν g48 g207 gR gO
            · exact absurd hc1 (by decide)
          have Y94 : fs p i (spd p i) r t = k → ∀ ν, ν 178 48 = (q : Int) → (∀ j : Nat, j < q → (oS p i (spd p i) (bst p i) j).1 ≠ 0 ∧ ν 207 j = oK p i (spd p i) (bst p i) j) → RS μ0 ν → MOW ν p i → qX mX8_layOrder GG (fun _ ρ' μ' => ρ' = ρ ∧ RS μ0 μ' ∧ MOW μ' p i ∧ ORD p i (spd p i) (bst p i) (μ' 178 48) (μ' 207)) GG (0, 0) 94 [some (qP 178), none, some (qI (r : Int)), some (qI t), some (qI (k : Int)), none, none] [qI 1] ρ ν := by
            intro fk ν g48 g207 gR gO
            refine w_X8_layOrder_94 ?_
            exact Y96 fk ν g48 g207 gR gO
          have C56 : ∀ s0 : Int, (s0 = 1000000 ∧ r.testBit k = false) ∨ (s0 = oEnd p (spd p i) (ow p i k) t ∧ r.testBit k = true) → qX mX8_layOrder GG (fun _ ρ' μ' => ρ' = ρ ∧ RS μ0 μ' ∧ MOW μ' p i ∧ ORD p i (spd p i) (bst p i) (μ' 178 48) (μ' 207)) GG (0, 0) 56 [some (qP 178), none, some (qI (r : Int)), some (qI t), some (qI (k : Int)), some (qI 0), none] [qI s0] ρ μ := by
            intro s0 hs0
            refine w_X8_layOrder_56 ?_
            refine ⟨fun hc1 => ?_, fun hc1 => ?_⟩
            · refine N96 (fun z => ?_) μ h48 h207 hR hO
              have z2 := fit_iff.mp z
              rcases hs0 with ⟨_, b⟩ | ⟨a, b⟩
              · rw [b] at z2; cases z2.1
              · have := (o.mp z2.2).1
                unfold FA at this
                omega
            · obtain ⟨rfl, hb⟩ : s0 = oEnd p (spd p i) (ow p i k) t ∧ r.testBit k = true := by
                rcases hs0 with ⟨a, b⟩ | h
                · omega
                · exact h
              have tl := tb.2.2.2.1 hb
              rw [tb.2.1]
              refine ⟨_, m_layEnds hp1 hv hc hO mo.1 (by omega) v0, ?_⟩
              rintro z1 ρ2 μ3 ⟨hq3_1, hE, ha⟩
              obtain rfl := hq3_1.symm
              have g := EP_g hv (w := r ^^^ 2 ^ k) cn hc v0 hE mo.1 (by unfold FA; omega) (by omega)
              unfold FA at g
              have g48 : μ3 178 48 = (q : Int) := by rw [ha 178 (by decide)]; exact h48
              have g207 : ∀ j : Nat, j < q → (oS p i (spd p i) (bst p i) j).1 ≠ 0 ∧ μ3 207 j = oK p i (spd p i) (bst p i) j := fun j hj => by rw [ha 207 (by decide)]; exact h207 j hj
              have gR : RS μ0 μ3 := hR.trans ⟨fun a x y => ha a (by omega), fun k x y z => by rw [ha 178 (by decide)]⟩
              have gO : MOW μ3 p i := ⟨by rw [ha 178 (by decide)]; exact hO.1, fun k k0 k1 => by rw [ha 205 (by decide)]; exact hO.2 k k0 k1⟩
              refine ⟨(by omega), ?_⟩
              refine ⟨fun hc5 => ?_, fun hc5 => ?_⟩
              · refine N94 (fun z => ?_) μ3 g48 g207 gR gO
                have z2 := fit_iff.mp z
                have := g.mpr (o.mp z2.2).2
                omega
              · rw [if_pos (fit_iff.mpr ⟨hb, o.mpr ⟨by unfold FA; omega, g.mp (by omega)⟩⟩)] at e
                exact Y94 (by rw [hf, e]) μ3 g48 g207 gR gO
          refine w_X8_layOrder_23 ?_
          refine ⟨fun hc1 => ?_, fun hc1 => ?_⟩
          · exact absurd rfl hc1
          · rw [tb.1]
            refine ⟨fun hc10 => ?_, fun hc10 => ?_⟩
            · refine C56 _ (Or.inl ⟨rfl, ?_⟩)
              cases z : r.testBit k
              · rfl
              · rw [z] at hc10; exact absurd rfl hc10
            · have hb : r.testBit k = true := by
                cases z : r.testBit k
                · rw [z] at hc10; exact absurd hc10 (by decide)
                · rfl
              rw [hO.2 _ (by omega) (by omega)]
              refine ⟨(by omega), ?_⟩
              refine ⟨_, m_endOf hp1 hv oj.1 oj.2.1 t0 (by unfold FA at t1; omega), ?_⟩
              rintro z7 ρ8 μ9 ⟨hq13_1, hq13_2, hq13_3⟩
              obtain rfl := hq13_1.symm
              obtain rfl := hq13_2.symm
              obtain rfl := hq13_3.symm
              exact C56 _ (Or.inr ⟨by rw [oj.2.2], hb⟩)
      refine w_X8_layOrder_13 ?_
      refine ⟨fun hc1 => ?_, fun hc1 => ?_⟩
      · have r0 : r = 0 := by omega
        refine ⟨rfl, hR, hO, ⟨by omega, by omega, ?_, fun j hj => h207 j (by omega)⟩⟩
        rw [h48, Int.toNat_natCast, he]
        exact r0
      · have r0 : r ≠ 0 := by omega
        have fe := fit_ex hv hc v0 hr r0 t0 hg
        exact T r0 _ 0 μ rfl (by omega) rfl h48 h207 hR hO ⟨fs p i (spd p i) r t, by omega, by omega, fe.2.1⟩
  refine e_X8_layOrder ?_
  refine ⟨_, m_bestOf hp hv hc v0, ?_⟩
  rintro z1 ρ2 μ3 ⟨hq1_1, hq1_2, hR, hO, h49⟩
  obtain rfl := hq1_1.symm
  obtain rfl := hq1_2.symm
  intro μ5 eμ5; subst eμ5
  exact M _ 0 (bst p i) 0 _ (Nat.lt_succ_self _) rfl bb.1 (by omega) (by decide) bb.2 (by have := pc_n (cnt p i).toNat (by omega) (bst p i) bb.1; omega) up2_s (fun j hj => by omega) (hR.k (Or.inr (Or.inl rfl))) ⟨by rw [up2_k (by decide)]; exact hO.1, fun k k0 k1 => by rw [up2_c (by decide)]; exact hO.2 k k0 k1⟩
end MBe
