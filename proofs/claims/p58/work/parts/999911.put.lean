/-! ===== the law writes a byte ===== -/
theorem bOf_v {x : Int} {s : Nat} (hs : s ≤ 24) : bOf x s = ((((Int32.ofInt x).toBitVec >>> s).setWidth 8).toNat : Int) := by
  unfold bOf and32 shr32
  rw [Int32.ofInt_toInt]
  show (Int32.toBitVec _).toInt = _
  rw [Int32.toBitVec_and, Int32.toBitVec_shiftRight]
  show ((Int32.ofInt x).toBitVec.sshiftRight ((Int32.ofInt (s : Int) &&& 31).toBitVec.smod 32).toNat &&& 255#32).toInt = _
  rw [byt_n s (by omega), byt_i _ _ hs]
theorem or_bv {x c : Int} (c0 : 0 ≤ c) : (Int32.ofInt (or32 (shl32 x 8) c)).toBitVec = ((Int32.ofInt x).toBitVec <<< 8) ||| BitVec.ofNat 32 c.toNat := by
  have e : (Int32.ofInt 8 &&& 31) = 8 := by decide
  unfold or32 shl32
  rw [e, Int32.ofInt_toInt, Int32.ofInt_toInt, Int32.toBitVec_or, Int32.toBitVec_shiftLeft]
  have e8 : ((8 : Int32).toBitVec.smod 32) = 8#32 := by decide
  rw [e8]
  obtain ⟨y, rfl⟩ := Int.eq_ofNat_of_zero_le c0
  rfl
theorem bOf_0 {x c : Int} (hc : 0 ≤ c ∧ c < 256) : bOf (or32 (shl32 x 8) c) 0 = c := by
  rw [bOf_v (by decide), or_bv hc.1]
  have h : ((((Int32.ofInt x).toBitVec <<< 8 ||| BitVec.ofNat 32 c.toNat) >>> 0).setWidth 8) = BitVec.ofNat 8 c.toNat := by
    apply BitVec.eq_of_getLsbD_eq
    intro i hi
    rw [BitVec.getLsbD_setWidth, BitVec.getLsbD_ushiftRight, BitVec.getLsbD_or, BitVec.getLsbD_shiftLeft, BitVec.getLsbD_ofNat, BitVec.getLsbD_ofNat]
    have h1 : 0 + i < 8 := by omega
    have h2 : 0 + i < 32 := by omega
    simp [hi]
    omega
  rw [h, BitVec.toNat_ofNat, Nat.mod_eq_of_lt (by omega)]
  omega
theorem bOf_8 {x c : Int} {s : Nat} (hc : 0 ≤ c ∧ c < 256) (hs : s ≤ 16) : bOf (or32 (shl32 x 8) c) (s + 8) = bOf x s := by
  rw [bOf_v (by omega), bOf_v (by omega), or_bv hc.1]
  have h : ((((Int32.ofInt x).toBitVec <<< 8 ||| BitVec.ofNat 32 c.toNat) >>> (s + 8)).setWidth 8) = ((Int32.ofInt x).toBitVec >>> s).setWidth 8 := by
    apply BitVec.eq_of_getLsbD_eq
    intro i hi
    rw [BitVec.getLsbD_setWidth, BitVec.getLsbD_ushiftRight, BitVec.getLsbD_or, BitVec.getLsbD_shiftLeft, BitVec.getLsbD_ofNat, BitVec.getLsbD_setWidth, BitVec.getLsbD_ushiftRight]
    have hb : c.toNat.testBit (s + 8 + i) = false := Nat.testBit_lt_two_pow (Nat.lt_of_lt_of_le (show c.toNat < 2 ^ 8 by omega) (Nat.pow_le_pow_right (by decide) (by omega)))
    rw [hb, show s + 8 + i - 8 = s + i by omega]
    have h1 : s + 8 + i < 32 := by omega
    have h2 : ¬ s + 8 + i < 8 := by omega
    simp [hi, h1, h2]
  rw [h]
def PBy (r f : Nat) (T : List Int) (g : Int → Int) : Prop := ∀ j : Nat, j < r → bOf (g ((j / 4 : Nat) : Int)) (8 * (min 4 (r - 4 * (j / 4)) - 1 - j % 4)) = T.getD (f + j) 0
theorem PBy_put {r f : Nat} {T : List Int} {g g' : Int → Int} {c : Int} (h : PBy r f T g) (hr : r < 20) (hl : T.length = f + r) (hc : 0 ≤ c ∧ c < 256) (h1 : g' ((r / 4 : Nat) : Int) = or32 (shl32 (g ((r / 4 : Nat) : Int)) 8) c) (h2 : ∀ k : Nat, k < 5 → k ≠ r / 4 → g' (k : Int) = g (k : Int)) : PBy (r + 1) f (T ++ [c]) g' := by
  intro j hj
  by_cases e : j = r
  · subst e
    rw [h1, show 8 * (min 4 (j + 1 - 4 * (j / 4)) - 1 - j % 4) = 0 by omega, bOf_0 hc, List.getD_eq_getElem?_getD, ← hl, List.getElem?_append_right (Nat.le_refl _), Nat.sub_self]
    rfl
  · have hT : (T ++ [c]).getD (f + j) 0 = T.getD (f + j) 0 := by
      rw [List.getD_eq_getElem?_getD, List.getD_eq_getElem?_getD, List.getElem?_append_left (by omega)]
    rw [hT, ← h j (by omega)]
    by_cases e2 : j / 4 = r / 4
    · rw [e2, h1, show 8 * (min 4 (r + 1 - 4 * (r / 4)) - 1 - j % 4) = 8 * (min 4 (r - 4 * (r / 4)) - 1 - j % 4) + 8 by omega, bOf_8 hc (by omega)]
    · rw [h2 (j / 4) (by omega) e2, show min 4 (r + 1 - 4 * (j / 4)) = min 4 (r - 4 * (j / 4)) by omega]
theorem sF_lo {σ : Sg} {x k : Int} (h : k < σ 0 0) : sF σ x 1 k = σ 1 k := by
  unfold sF
  rw [sB1_1, sB1_1, sB1_1, sB1_1]
  simp only [sB1_0]
  rw [u1_n (by omega), u1_n (by omega), u1_n (by omega), u1_n (by omega)]
theorem sF_b {σ : Sg} {x : Int} {b : Nat} (h : b < 4) : sF σ x 1 (σ 0 0 + b) = bOf x (24 - 8 * b) := by
  unfold sF
  rw [sB1_1, sB1_1, sB1_1, sB1_1]
  simp only [sB1_0]
  obtain rfl | rfl | rfl | rfl : b = 0 ∨ b = 1 ∨ b = 2 ∨ b = 3 := by omega
  · rw [u1_n (by omega), u1_n (by omega), u1_n (by omega), show σ 0 0 + ((0 : Nat) : Int) = σ 0 0 by omega, u1_s]
  · rw [u1_n (by omega), u1_n (by omega), show σ 0 0 + ((1 : Nat) : Int) = σ 0 0 + 1 by omega, u1_s]
  · rw [u1_n (by omega), show σ 0 0 + ((2 : Nat) : Int) = σ 0 0 + 1 + 1 by omega, u1_s]
  · rw [show σ 0 0 + ((3 : Nat) : Int) = σ 0 0 + 1 + 1 + 1 by omega, u1_s]
theorem sAp_lo {σ : Sg} {a b c d e k : Int} (h : k < σ 0 0) : sAp σ a b c d e 1 k = σ 1 k := by
  unfold sAp
  rw [sF_lo (by simp only [sF_0]; omega), sF_lo (by simp only [sF_0]; omega), sF_lo (by simp only [sF_0]; omega), sF_lo (by simp only [sF_0]; omega), sF_lo h]
theorem sAp_b {σ : Sg} {g : Int → Int} {j : Nat} (h : j < 20) : sAp σ (g 0) (g 1) (g 2) (g 3) (g 4) 1 (σ 0 0 + j) = bOf (g ((j / 4 : Nat) : Int)) (24 - 8 * (j % 4)) := by
  unfold sAp
  obtain q | q | q | q | q : j / 4 = 0 ∨ j / 4 = 1 ∨ j / 4 = 2 ∨ j / 4 = 3 ∨ j / 4 = 4 := by omega
  · rw [sF_lo (by simp only [sF_0]; omega), sF_lo (by simp only [sF_0]; omega), sF_lo (by simp only [sF_0]; omega), sF_lo (by simp only [sF_0]; omega), q]
    have e := sF_b (σ := σ) (x := g 0) (b := j % 4) (by omega)
    rw [← show ((0 : Nat) : Int) = 0 from rfl] at e ⊢
    rw [← e]
    congr 1
    omega
  · rw [sF_lo (by simp only [sF_0]; omega), sF_lo (by simp only [sF_0]; omega), sF_lo (by simp only [sF_0]; omega), q]
    have e := sF_b (σ := sF σ (g 0)) (x := g 1) (b := j % 4) (by omega)
    simp only [sF_0] at e
    rw [show ((1 : Nat) : Int) = 1 from rfl, ← e]
    congr 1
    omega
  · rw [sF_lo (by simp only [sF_0]; omega), sF_lo (by simp only [sF_0]; omega), q]
    have e := sF_b (σ := sF (sF σ (g 0)) (g 1)) (x := g 2) (b := j % 4) (by omega)
    simp only [sF_0] at e
    rw [show ((2 : Nat) : Int) = 2 from rfl, ← e]
    congr 1
    omega
  · rw [sF_lo (by simp only [sF_0]; omega), q]
    have e := sF_b (σ := sF (sF (sF σ (g 0)) (g 1)) (g 2)) (x := g 3) (b := j % 4) (by omega)
    simp only [sF_0] at e
    rw [show ((3 : Nat) : Int) = 3 from rfl, ← e]
    congr 1
    omega
  · rw [q]
    have e := sF_b (σ := sF (sF (sF (sF σ (g 0)) (g 1)) (g 2)) (g 3)) (x := g 4) (b := j % 4) (by omega)
    simp only [sF_0] at e
    rw [show ((4 : Nat) : Int) = 4 from rfl, ← e]
    congr 1
    omega
/-- the text so far: what the class has of it, and what waits in the law's row -/
def WT (T : List Int) (σ : Sg) (g : Int → Int) : Prop := ∃ f r : Nat, (T.length = f + r ∧ f % 20 = 0) ∧ r < 20 ∧ σ 0 0 = f ∧ (∀ k : Nat, k < f → σ 1 k = T.getD k 0) ∧ g 5 = r ∧ g 6 = T.length ∧ PBy r f T g
theorem WT.fl {f : Nat} {T : List Int} {σ : Sg} {g g' : Int → Int} (hf : f % 20 = 0) (hl : T.length = f + 20) (h0 : σ 0 0 = f) (hb : ∀ k : Nat, k < f → σ 1 k = T.getD k 0) (hy : PBy 20 f T g) (h5 : g' 5 = 0) (h6 : g' 6 = T.length) : WT T (sAp σ (g 0) (g 1) (g 2) (g 3) (g 4)) g' := by
  refine ⟨f + 20, 0, ⟨by omega, by omega⟩, by omega, by rw [sAp_0, h0]; omega, fun k hk => ?_, by rw [h5]; rfl, h6, fun j hj => by omega⟩
  by_cases c : k < f
  · rw [sAp_lo (by rw [h0]; omega)]
    exact hb k c
  · have e := sAp_b (σ := σ) (g := g) (j := k - f) (by omega)
    rw [h0, show (f : Int) + ((k - f : Nat) : Int) = (k : Int) by omega] at e
    rw [e]
    have y := hy (k - f) (by omega)
    rw [show 8 * (min 4 (20 - 4 * ((k - f) / 4)) - 1 - (k - f) % 4) = 24 - 8 * ((k - f) % 4) by omega, show f + (k - f) = k by omega] at y
    exact y
section PUT
variable {ρ : Rf} {μ : Mem} {σ : Sg} {X : List Sh} {x : Nat} {T : List Int}
theorem l_flush (hx : (GX X).2[x]? = some (10, 7)) (h178 : 178 ≤ x) (L : LI ρ μ σ) (hn : σ 0 0 + 20 ≤ 900) : qE mL_flush (GX X) (GX X) [qP 0, qP x] ρ μ (fun _ ρ' μ' => LI ρ' μ' (sAp σ (μ x 0) (μ x 1) (μ x 2) (μ x 3) (μ x 4)) ∧ OUX x ρ μ ρ' μ' ∧ μ' x = u1 (μ x) 5 0) := by
  refine e_L_flush hx ?_
  refine ⟨(by omega), ?_⟩
  refine ⟨(by omega), ?_⟩
  refine ⟨(by omega), ?_⟩
  refine ⟨(by omega), ?_⟩
  refine ⟨(by omega), ?_⟩
  refine ⟨_, lc L (c_append L.2.1 L.1) L.1.ap (by decide) rfl, ?_⟩
  rintro z1 ρ2 μ3 ⟨hz, L1, O1⟩
  refine ⟨(by omega), ?_⟩
  intro μ5 eμ5; subst eμ5
  refine ⟨?_, (O1.x x).up, ?_⟩
  · rw [if_pos hn] at L1
    exact L1.up h178
  · rw [up2_u, (O1 x h178).2]
set_option maxHeartbeats 1000000 in
theorem l_put {c : Int} (hx : (GX X).2[x]? = some (10, 7)) (h178 : 178 ≤ x) (L : LI ρ μ σ) (W : WT T σ (μ x)) (hc : 0 ≤ c ∧ c < 256) (hT : T.length < 880) : qE mL_put (GX X) (GX X) [qP 0, qP x, qI c] ρ μ (fun _ ρ' μ' => ∃ σ', LI ρ' μ' σ' ∧ WT (T ++ [c]) σ' (μ' x) ∧ OUX x ρ μ ρ' μ') := by
  obtain ⟨f, r, ⟨hl, hf⟩, hr, h0, hb, h5, h6, hy⟩ := W
  have q4 : (r : Int) / 4 = ((r / 4 : Nat) : Int) := by omega
  have hlc : (T ++ [c]).length = f + (r + 1) := by rw [List.length_append, hl]; simp; omega
  have hy2 : ∀ g' : Int → Int, (∀ k : Int, k ≠ 5 → k ≠ 6 → g' k = u1 (μ x) ((r / 4 : Nat) : Int) (or32 (shl32 (μ x ((r / 4 : Nat) : Int)) 8) c) k) → PBy (r + 1) f (T ++ [c]) g' := fun g' hg => by
    refine PBy_put hy hr hl hc ?_ (fun k k5 kr => ?_)
    · rw [hg _ (by omega) (by omega), u1_s]
    · rw [hg _ (by omega) (by omega), u1_n (by omega)]
  have hb2 : ∀ k : Nat, k < f → σ 1 k = (T ++ [c]).getD k 0 := fun k hk => by
    rw [hb k hk, List.getD_eq_getElem?_getD, List.getD_eq_getElem?_getD, List.getElem?_append_left (by omega)]
  refine e_L_put hx ?_
  refine ⟨(by omega), ?_⟩
  refine ⟨(by rw [h5]; omega), ?_⟩
  refine ⟨(by rw [h5]; omega), ?_⟩
  refine ⟨(by rw [h5]; omega), ?_⟩
  refine ⟨(by rw [h5]; omega), ?_⟩
  rw [h5, q4]
  intro μ1 eμ1; subst eμ1
  refine ⟨(by omega), ?_⟩
  have g5 : up2 μ x ((r / 4 : Nat) : Int) (or32 (shl32 (μ x ((r / 4 : Nat) : Int)) 8) c) x 5 = (r : Int) := by rw [up2_u, u1_n (by omega), h5]
  refine ⟨(by rw [g5]; unfold i32; omega), ?_⟩
  refine ⟨(by omega), ?_⟩
  rw [g5]
  intro μ2 eμ2; subst eμ2
  refine ⟨(by omega), ?_⟩
  have g6 : up2 (up2 μ x ((r / 4 : Nat) : Int) (or32 (shl32 (μ x ((r / 4 : Nat) : Int)) 8) c)) x 5 ((r : Int) + 1) x 6 = (T.length : Int) := by rw [up2_u, u1_n (by omega), up2_u, u1_n (by omega), h6]
  refine ⟨(by rw [g6]; unfold i32; omega), ?_⟩
  refine ⟨(by omega), ?_⟩
  rw [g6]
  intro μ3 eμ3; subst eμ3
  refine ⟨(by omega), ?_⟩
  have L2 := ((L.up (k := ((r / 4 : Nat) : Int)) (v := or32 (shl32 (μ x ((r / 4 : Nat) : Int)) 8) c) h178).up (k := 5) (v := (r : Int) + 1) h178).up (k := 6) (v := (T.length : Int) + 1) h178
  have O2 : OUX x ρ μ ρ (up2 (up2 (up2 μ x ((r / 4 : Nat) : Int) (or32 (shl32 (μ x ((r / 4 : Nat) : Int)) 8) c)) x 5 ((r : Int) + 1)) x 6 ((T.length : Int) + 1)) := (OUX.refl.up.up).up
  have g5b : up2 (up2 (up2 μ x ((r / 4 : Nat) : Int) (or32 (shl32 (μ x ((r / 4 : Nat) : Int)) 8) c)) x 5 ((r : Int) + 1)) x 6 ((T.length : Int) + 1) x 5 = (r : Int) + 1 := by rw [up2_u, u1_n (by omega), up2_u, u1_s]
  have g6b : up2 (up2 (up2 μ x ((r / 4 : Nat) : Int) (or32 (shl32 (μ x ((r / 4 : Nat) : Int)) 8) c)) x 5 ((r : Int) + 1)) x 6 ((T.length : Int) + 1) x 6 = (T.length : Int) + 1 := by rw [up2_u, u1_s]
  have hyb := hy2 (up2 (up2 (up2 μ x ((r / 4 : Nat) : Int) (or32 (shl32 (μ x ((r / 4 : Nat) : Int)) 8) c)) x 5 ((r : Int) + 1)) x 6 ((T.length : Int) + 1) x) (fun k k5 k6 => by rw [up2_u, u1_n k6, up2_u, u1_n k5, up2_u])
  revert L2 O2 g5b g6b hyb
  generalize up2 (up2 (up2 μ x ((r / 4 : Nat) : Int) (or32 (shl32 (μ x ((r / 4 : Nat) : Int)) 8) c)) x 5 ((r : Int) + 1)) x 6 ((T.length : Int) + 1) = ν
  intro L2 O2 g5b g6b hyb
  refine ⟨fun hc16 => ?_, fun hc16 => ?_⟩
  · refine ⟨σ, L2, ⟨f, r + 1, ⟨hlc, hf⟩, by omega, h0, hb2, by rw [g5b]; omega, by rw [g6b, hlc]; omega, hyb⟩, O2⟩
  · refine ⟨_, l_flush hx h178 L2 (by omega), ?_⟩
    rintro z4 ρ5 μ6 ⟨L3, O3, e3⟩
    have hr2 : r + 1 = 20 := by omega
    rw [hr2] at hyb hlc
    exact ⟨_, L3, WT.fl hf hlc h0 hb2 hyb (by rw [e3, u1_s]) (by rw [e3, u1_n (by omega), g6b, hlc]; omega), O2.trans O3⟩
end PUT
