/-! ===== the row that the law draws ===== -/
theorem and_m {x m : Int} (h : 0 ≤ m ∧ m < 2147483648) : 0 ≤ and32 x m ∧ and32 x m ≤ m := by
  obtain ⟨n, rfl⟩ := Int.eq_ofNat_of_zero_le h.1
  have e : (Int32.ofInt (n : Int)).toBitVec = BitVec.ofNat 32 n := rfl
  have e2 : and32 x n = ((Int32.ofInt x).toBitVec &&& BitVec.ofNat 32 n).toInt := by
    unfold and32
    show (Int32.toBitVec _).toInt = _
    rw [Int32.toBitVec_and, e]
  have a1 : ((Int32.ofInt x).toBitVec &&& BitVec.ofNat 32 n).toNat ≤ n := by
    rw [BitVec.toNat_and, BitVec.toNat_ofNat, Nat.mod_eq_of_lt (by omega)]
    exact Nat.and_le_right
  rw [e2, BitVec.toInt_eq_toNat_of_lt (by omega)]
  omega
/-- the most that each of its ints can be -/
def hiF (k : Int) : Int := if k < 2 then 63 else if k < 4 then 190 else if k < 22 then 31 else if k < 34 then 15 else if k < 42 then 31 else if k < 46 then 63 else if k < 50 then 0 else if k < 70 then (if (k - 50) % 5 = 0 then 1 else if (k - 50) % 5 = 1 then 32 else if (k - 50) % 5 = 2 then 8 else 4) else if k = 70 then 6 else if (k - 71) % 5 = 0 then 2 else if (k - 71) % 5 = 4 then 32 else 1
theorem hi_0 {k : Int} (h : 0 ≤ k ∧ k < 2) : hiF k = 63 := by
  unfold hiF
  rw [if_pos (by omega)]
theorem hi_2 {k : Int} (h : 0 ≤ k ∧ k < 2) : hiF (2 + k) = 190 := by
  unfold hiF
  rw [if_neg (by omega), if_pos (by omega)]
theorem hi_10 {k : Int} (h : 4 ≤ k ∧ k < 22) : hiF k = 31 := by
  unfold hiF
  rw [if_neg (by omega), if_neg (by omega), if_pos (by omega)]
theorem hi_30 {k : Int} (h : 22 ≤ k ∧ k < 34) : hiF k = 15 := by
  unfold hiF
  rw [if_neg (by omega), if_neg (by omega), if_neg (by omega), if_pos (by omega)]
theorem hi_40 {k : Int} (h : 34 ≤ k ∧ k < 42) : hiF k = 31 := by
  unfold hiF
  rw [if_neg (by omega), if_neg (by omega), if_neg (by omega), if_neg (by omega), if_pos (by omega)]
theorem hi_42 {k : Int} (h : 42 ≤ k ∧ k < 46) : hiF k = 63 := by
  unfold hiF
  rw [if_neg (by omega), if_neg (by omega), if_neg (by omega), if_neg (by omega), if_neg (by omega), if_pos (by omega)]
theorem hi_50 {k : Int} (h : 0 ≤ k ∧ k < 3) : hiF (50 + 5 * k) = 1 := by
  unfold hiF
  rw [if_neg (by omega), if_neg (by omega), if_neg (by omega), if_neg (by omega), if_neg (by omega), if_neg (by omega), if_neg (by omega), if_pos (by omega), if_pos (by omega)]
theorem hi_51 {k : Int} (h : 0 ≤ k ∧ k < 3) : hiF (51 + 5 * k) = 32 := by
  unfold hiF
  rw [if_neg (by omega), if_neg (by omega), if_neg (by omega), if_neg (by omega), if_neg (by omega), if_neg (by omega), if_neg (by omega), if_pos (by omega), if_neg (by omega), if_pos (by omega)]
theorem hi_52 {k : Int} (h : 0 ≤ k ∧ k < 3) : hiF (52 + 5 * k) = 8 := by
  unfold hiF
  rw [if_neg (by omega), if_neg (by omega), if_neg (by omega), if_neg (by omega), if_neg (by omega), if_neg (by omega), if_neg (by omega), if_pos (by omega), if_neg (by omega), if_neg (by omega), if_pos (by omega)]
theorem hi_53 {k : Int} (h : 0 ≤ k ∧ k < 3) : hiF (53 + 5 * k) = 4 := by
  unfold hiF
  rw [if_neg (by omega), if_neg (by omega), if_neg (by omega), if_neg (by omega), if_neg (by omega), if_neg (by omega), if_neg (by omega), if_pos (by omega), if_neg (by omega), if_neg (by omega), if_neg (by omega)]
theorem hi_54 {k : Int} (h : 0 ≤ k ∧ k < 3) : hiF (54 + 5 * k) = 4 := by
  unfold hiF
  rw [if_neg (by omega), if_neg (by omega), if_neg (by omega), if_neg (by omega), if_neg (by omega), if_neg (by omega), if_neg (by omega), if_pos (by omega), if_neg (by omega), if_neg (by omega), if_neg (by omega)]
theorem hi_71 {k : Int} (h : 0 ≤ k) : hiF (71 + 5 * k) = 2 := by
  unfold hiF
  rw [if_neg (by omega), if_neg (by omega), if_neg (by omega), if_neg (by omega), if_neg (by omega), if_neg (by omega), if_neg (by omega), if_neg (by omega), if_neg (by omega), if_pos (by omega)]
theorem hi_72 {k : Int} (h : 0 ≤ k) : hiF (72 + 5 * k) = 1 := by
  unfold hiF
  rw [if_neg (by omega), if_neg (by omega), if_neg (by omega), if_neg (by omega), if_neg (by omega), if_neg (by omega), if_neg (by omega), if_neg (by omega), if_neg (by omega), if_neg (by omega), if_neg (by omega)]
theorem hi_73 {k : Int} (h : 0 ≤ k) : hiF (73 + 5 * k) = 1 := by
  unfold hiF
  rw [if_neg (by omega), if_neg (by omega), if_neg (by omega), if_neg (by omega), if_neg (by omega), if_neg (by omega), if_neg (by omega), if_neg (by omega), if_neg (by omega), if_neg (by omega), if_neg (by omega)]
theorem hi_74 {k : Int} (h : 0 ≤ k) : hiF (74 + 5 * k) = 1 := by
  unfold hiF
  rw [if_neg (by omega), if_neg (by omega), if_neg (by omega), if_neg (by omega), if_neg (by omega), if_neg (by omega), if_neg (by omega), if_neg (by omega), if_neg (by omega), if_neg (by omega), if_neg (by omega)]
theorem hi_75 {k : Int} (h : 0 ≤ k) : hiF (75 + 5 * k) = 32 := by
  unfold hiF
  rw [if_neg (by omega), if_neg (by omega), if_neg (by omega), if_neg (by omega), if_neg (by omega), if_neg (by omega), if_neg (by omega), if_neg (by omega), if_neg (by omega), if_neg (by omega), if_pos (by omega)]
theorem hi_n {k : Int} : 0 ≤ hiF k := by
  unfold hiF
  (repeat' split) <;> decide
theorem hi_m {k : Int} : hiF k ≤ 190 := by
  unfold hiF
  (repeat' split) <;> decide
def rUB (E : Int → Int) : Prop := ∀ k, 0 ≤ E k ∧ E k ≤ hiF k
def rD1 (n : Int) (E : Int → Int) : Prop := ∀ t, 0 ≤ t → t < n → E t ≤ E (2 + t)
def rD5 (n : Int) (E : Int → Int) : Prop := ∀ i, 0 ≤ i → i < n → 1 ≤ E (50 + 5 * i + 1) ∧ 1 ≤ E (50 + 5 * i + 2) ∧ 1 ≤ E (50 + 5 * i + 3) ∧ 1 ≤ E (50 + 5 * i + 4)
def rD7 (n : Int) (E : Int → Int) : Prop := ∀ j, 0 ≤ j → j < n → 1 ≤ E (75 + 5 * j)
theorem rUB.up {E : Int → Int} {q v : Int} (h : rUB E) (hv : 0 ≤ v ∧ v ≤ hiF q) : rUB (u1 E q v) := fun k => by
  by_cases c : k = q
  · rw [c, u1_s]; exact hv
  · rw [u1_n c]; exact h k
theorem rD1.up {E : Int → Int} {n q v : Int} (h : rD1 n E) (hq : q < 0 ∨ (n ≤ q ∧ q < 2) ∨ 2 + n ≤ q) : rD1 n (u1 E q v) := fun t t0 t1 => by
  by_cases c : q < 0 ∨ 2 + n ≤ q
  · rw [u1_n (by omega), u1_n (by omega)]; exact h t t0 t1
  · by_cases d : 2 + t = q
    · omega
    · rw [u1_n (by omega), u1_n (by omega)]; exact h t t0 t1
theorem rD5.up {E : Int → Int} {n q v : Int} (h : rD5 n E) (hq : 50 + 5 * n ≤ q) : rD5 n (u1 E q v) := fun i i0 i1 => by
  rw [u1_n (by omega), u1_n (by omega), u1_n (by omega), u1_n (by omega)]; exact h i i0 i1
theorem rD7.up {E : Int → Int} {n q v : Int} (h : rD7 n E) (hq : 71 + 5 * n ≤ q) : rD7 n (u1 E q v) := fun j j0 j1 => by
  rw [u1_n (by omega)]; exact h j j0 j1
theorem rDW {E : Int → Int} (h : rUB E) (h1 : rD1 2 E) (h5 : rD5 3 E) (h6 : 2 ≤ E 70) (h7 : rD7 (E 70) E) : DW E := by
  have b : ∀ k, 0 ≤ E k ∧ E k ≤ hiF k := h
  refine ⟨fun k k0 k1 => ?_, fun t t0 t1 => ?_, fun k k0 k1 => ?_, fun k k0 k1 => ?_, fun i i0 i1 => ?_, ⟨h6, (b 70).2⟩, fun j j0 j1 => ?_⟩
  · have a := b k
    have c := hi_m (k := k)
    omega
  · have a := b t
    have c := b (2 + t)
    rw [hi_0 ⟨t0, t1⟩] at a
    rw [hi_2 ⟨t0, t1⟩] at c
    have d := h1 t t0 t1
    omega
  · have a1 := b (10 + 3 * k + 0)
    have a2 := b (10 + 3 * k + 1)
    have a3 := b (10 + 3 * k + 2)
    rw [hi_10 (by omega)] at a1 a2 a3
    omega
  · have a1 := b (30 + 2 * k)
    have a2 := b (31 + 2 * k)
    have a3 := b (40 + k)
    rw [hi_30 (by omega)] at a1 a2
    rw [hi_40 (by omega)] at a3
    omega
  · have q := h5 i i0 i1
    have f1 : (50 + 5 * i + 1 : Int) = 51 + 5 * i := by omega
    have f2 : (50 + 5 * i + 2 : Int) = 52 + 5 * i := by omega
    have f3 : (50 + 5 * i + 3 : Int) = 53 + 5 * i := by omega
    have f4 : (50 + 5 * i + 4 : Int) = 54 + 5 * i := by omega
    have f0 : (50 + 5 * i + 0 : Int) = 50 + 5 * i := by omega
    have a0 := b (50 + 5 * i)
    have a1 := b (51 + 5 * i)
    have a2 := b (52 + 5 * i)
    have a3 := b (53 + 5 * i)
    have a4 := b (54 + 5 * i)
    rw [hi_50 ⟨i0, i1⟩] at a0
    rw [hi_51 ⟨i0, i1⟩] at a1
    rw [hi_52 ⟨i0, i1⟩] at a2
    rw [hi_53 ⟨i0, i1⟩] at a3
    rw [hi_54 ⟨i0, i1⟩] at a4
    rw [f1, f2, f3, f4] at q
    rw [f0, f1, f2, f3, f4]
    omega
  · have q := h7 j j0 j1
    have f0 : (71 + 5 * j + 0 : Int) = 71 + 5 * j := by omega
    have f1 : (71 + 5 * j + 1 : Int) = 72 + 5 * j := by omega
    have f2 : (71 + 5 * j + 2 : Int) = 73 + 5 * j := by omega
    have a0 := b (71 + 5 * j)
    have a1 := b (72 + 5 * j)
    have a2 := b (73 + 5 * j)
    have a3 := b (75 + 5 * j)
    rw [hi_71 j0] at a0
    rw [hi_72 j0] at a1
    rw [hi_73 j0] at a2
    rw [hi_75 j0] at a3
    rw [f0, f1, f2]
    omega
section DRW
variable {ρ ρ0 : Rf} {μ μ0 : Mem} {X : List Sh} {x : Nat} {E : Int → Int} {j : Int}
def DRX (x : Nat) (ρ0 : Rf) (μ0 : Mem) (E : Int → Int) (ρ : Rf) (μ : Mem) : Prop := ρ = ρ0 ∧ (∀ o, o ≠ x → μ o = μ0 o) ∧ μ x = E ∧ rUB E
theorem DRX.up {q v : Int} (C : DRX x ρ0 μ0 E ρ μ) (hv : 0 ≤ v ∧ v ≤ hiF q) : DRX x ρ0 μ0 (u1 E q v) ρ (up2 μ x q v) := ⟨C.1, fun o ho => by rw [up2_c ho]; exact C.2.1 o ho, by rw [up2_u, C.2.2.1], C.2.2.2.up hv⟩
theorem d_job (hx : (GX X).2[x]? = some (10, 200)) : ∀ (k : Nat) (j : Int) (E : Int → Int) (ρ : Rf) (μ : Mem), (E 70 - j).toNat < k → 0 ≤ j ∧ j ≤ E 70 → DRX x ρ0 μ0 E ρ μ → rD1 2 E → rD5 3 E → 2 ≤ E 70 → rD7 j E → qX mL_drawn (GX X) (fun z ρ' μ' => z = ((x : Nat) : Int) ∧ ∃ E, DRX x ρ0 μ0 E ρ' μ' ∧ DW E) (GX X) (1, 200) 341 [some (qP sid), some (qP x), none, some (qI j), none] [] ρ μ := by
  intro k
  induction k with
  | zero => intro j E ρ μ hk; omega
  | succ k ih =>
    intro j E ρ μ hk hj C h1 h5 h6 h7
    have e6 : E 70 ≤ 6 := (C.2.2.2 70).2
    refine w_L_drawn_341 hx ?_
    refine ⟨(by omega), ?_⟩
    rw [C.2.2.1]
    refine ⟨fun hc2 => ?_, fun hc2 => ?_⟩
    · obtain rfl : j = E 70 := by omega
      exact ⟨rfl, E, C, rDW C.2.2.2 h1 h5 h6 h7⟩
    · refine ⟨(by unfold i32; omega), ?_⟩
      refine ⟨_, h_cell (by omega), ?_⟩
      rintro z1 ρ2 μ3 ⟨hz, hq5_1, hq5_2⟩
      obtain rfl := hq5_1.symm
      obtain rfl := hq5_2.symm
      have a3 := and_m (x := z1) (m := 3) (by decide)
      have b1 := and_m (x := shr32 z1 2) (m := 1) (by decide)
      have b2 := and_m (x := shr32 z1 3) (m := 1) (by decide)
      have b3 := and_m (x := shr32 z1 4) (m := 1) (by decide)
      have b4 := and_m (x := shr32 z1 5) (m := 31) (by decide)
      refine ⟨(by unfold i32; omega), ?_⟩
      refine ⟨(by unfold i32; omega), ?_⟩
      refine ⟨(by omega), ?_⟩
      refine ⟨(by omega), ?_⟩
      intro μ5 eμ5
      subst eμ5
      replace C := C.up (q := 71 + 5 * j) (v := and32 z1 3 % 3) ⟨by omega, by rw [hi_71 hj.1]; omega⟩
      replace h1 := h1.up (q := 71 + 5 * j) (v := and32 z1 3 % 3) (by omega)
      replace h5 := h5.up (q := 71 + 5 * j) (v := and32 z1 3 % 3) (by omega)
      replace h7 := h7.up (q := 71 + 5 * j) (v := and32 z1 3 % 3) (by omega)
      refine ⟨(by unfold i32; omega), ?_⟩
      refine ⟨(by unfold i32; omega), ?_⟩
      refine ⟨(by omega), ?_⟩
      intro μ6 eμ6
      subst eμ6
      replace C := C.up (q := 72 + 5 * j) (v := and32 (shr32 z1 2) 1) ⟨by omega, by rw [hi_72 hj.1]; omega⟩
      replace h1 := h1.up (q := 72 + 5 * j) (v := and32 (shr32 z1 2) 1) (by omega)
      replace h5 := h5.up (q := 72 + 5 * j) (v := and32 (shr32 z1 2) 1) (by omega)
      replace h7 := h7.up (q := 72 + 5 * j) (v := and32 (shr32 z1 2) 1) (by omega)
      refine ⟨(by unfold i32; omega), ?_⟩
      refine ⟨(by unfold i32; omega), ?_⟩
      refine ⟨(by omega), ?_⟩
      intro μ7 eμ7
      subst eμ7
      replace C := C.up (q := 73 + 5 * j) (v := and32 (shr32 z1 3) 1) ⟨by omega, by rw [hi_73 hj.1]; omega⟩
      replace h1 := h1.up (q := 73 + 5 * j) (v := and32 (shr32 z1 3) 1) (by omega)
      replace h5 := h5.up (q := 73 + 5 * j) (v := and32 (shr32 z1 3) 1) (by omega)
      replace h7 := h7.up (q := 73 + 5 * j) (v := and32 (shr32 z1 3) 1) (by omega)
      refine ⟨(by unfold i32; omega), ?_⟩
      refine ⟨(by unfold i32; omega), ?_⟩
      refine ⟨(by omega), ?_⟩
      intro μ8 eμ8
      subst eμ8
      replace C := C.up (q := 74 + 5 * j) (v := and32 (shr32 z1 4) 1) ⟨by omega, by rw [hi_74 hj.1]; omega⟩
      replace h1 := h1.up (q := 74 + 5 * j) (v := and32 (shr32 z1 4) 1) (by omega)
      replace h5 := h5.up (q := 74 + 5 * j) (v := and32 (shr32 z1 4) 1) (by omega)
      replace h7 := h7.up (q := 74 + 5 * j) (v := and32 (shr32 z1 4) 1) (by omega)
      refine ⟨(by unfold i32; omega), ?_⟩
      refine ⟨(by unfold i32; omega), ?_⟩
      refine ⟨(by unfold i32; omega), ?_⟩
      refine ⟨(by omega), ?_⟩
      intro μ9 eμ9
      subst eμ9
      replace C := C.up (q := 75 + 5 * j) (v := 1 + and32 (shr32 z1 5) 31) ⟨by omega, by rw [hi_75 hj.1]; omega⟩
      replace h1 := h1.up (q := 75 + 5 * j) (v := 1 + and32 (shr32 z1 5) 31) (by omega)
      replace h5 := h5.up (q := 75 + 5 * j) (v := 1 + and32 (shr32 z1 5) 31) (by omega)
      replace h7 := h7.up (q := 75 + 5 * j) (v := 1 + and32 (shr32 z1 5) 31) (by omega)
      refine ⟨(by unfold i32; omega), ?_⟩
      have e70 : ∀ (F : Int → Int) (q v : Int), 71 ≤ q → u1 F q v 70 = F 70 := fun F q v hq => u1_n (by omega)
      have e70a : (u1 (u1 (u1 (u1 (u1 E (71 + 5 * j) (and32 z1 3 % 3)) (72 + 5 * j) (and32 (shr32 z1 2) 1)) (73 + 5 * j) (and32 (shr32 z1 3) 1)) (74 + 5 * j) (and32 (shr32 z1 4) 1)) (75 + 5 * j) (1 + and32 (shr32 z1 5) 31)) 70 = E 70 := by
        rw [e70 _ _ _ (by omega), e70 _ _ _ (by omega), e70 _ _ _ (by omega), e70 _ _ _ (by omega), e70 _ _ _ (by omega)]
      refine ih (j + 1) _ _ _ (by rw [e70a]; omega) (by rw [e70a]; omega) C h1 h5 (by rw [e70a]; exact h6) (fun i i0 i1 => ?_)
      by_cases c : i = j
      · rw [c, u1_s]; omega
      · exact h7 i i0 (by omega)
theorem d_tro (hx : (GX X).2[x]? = some (10, 200)) (C : DRX x ρ0 μ0 E ρ μ) (h1 : rD1 2 E) (h5 : rD5 j E) (hj : 0 ≤ j ∧ j < 3) (nx : ∀ ρ' μ' E', DRX x ρ0 μ0 E' ρ' μ' → rD1 2 E' → rD5 (j + 1) E' → qX mL_drawn (GX X) (fun z ρ' μ' => z = ((x : Nat) : Int) ∧ ∃ E, DRX x ρ0 μ0 E ρ' μ' ∧ DW E) (GX X) (1, 200) 224 [some (qP sid), some (qP x), none, some (qI (j + 1)), none] [] ρ' μ') : qX mL_drawn (GX X) (fun z ρ' μ' => z = ((x : Nat) : Int) ∧ ∃ E, DRX x ρ0 μ0 E ρ' μ' ∧ DW E) (GX X) (1, 200) 224 [some (qP sid), some (qP x), none, some (qI j), none] [] ρ μ := by
  refine w_L_drawn_224 hx ?_
  refine ⟨fun hc1 => ?_, fun hc1 => ?_⟩
  · omega
  · refine ⟨(by unfold i32; omega), ?_⟩
    refine ⟨_, h_cell (by omega), ?_⟩
    rintro z6 ρ7 μ8 ⟨hz, hq9_1, hq9_2⟩
    obtain rfl := hq9_1.symm
    obtain rfl := hq9_2.symm
    have b1 := and_m (x := z6) (m := 1) (by decide)
    have b2 := and_m (x := shr32 z6 1) (m := 31) (by decide)
    have b3 := and_m (x := shr32 z6 6) (m := 7) (by decide)
    have b4 := and_m (x := shr32 z6 9) (m := 3) (by decide)
    have b5 := and_m (x := shr32 z6 11) (m := 3) (by decide)
    refine ⟨(by unfold i32; omega), ?_⟩
    refine ⟨(by unfold i32; omega), ?_⟩
    refine ⟨(by omega), ?_⟩
    intro μ10 eμ10
    subst eμ10
    replace C := C.up (q := 50 + 5 * j) (v := and32 z6 1) ⟨by omega, by rw [hi_50 hj]; omega⟩
    replace h1 := h1.up (q := 50 + 5 * j) (v := and32 z6 1) (by omega)
    replace h5 := h5.up (q := 50 + 5 * j) (v := and32 z6 1) (by omega)
    refine ⟨(by unfold i32; omega), ?_⟩
    refine ⟨(by unfold i32; omega), ?_⟩
    refine ⟨(by unfold i32; omega), ?_⟩
    refine ⟨(by omega), ?_⟩
    intro μ11 eμ11
    subst eμ11
    replace C := C.up (q := 51 + 5 * j) (v := 1 + and32 (shr32 z6 1) 31) ⟨by omega, by rw [hi_51 hj]; omega⟩
    replace h1 := h1.up (q := 51 + 5 * j) (v := 1 + and32 (shr32 z6 1) 31) (by omega)
    replace h5 := h5.up (q := 51 + 5 * j) (v := 1 + and32 (shr32 z6 1) 31) (by omega)
    refine ⟨(by unfold i32; omega), ?_⟩
    refine ⟨(by unfold i32; omega), ?_⟩
    refine ⟨(by unfold i32; omega), ?_⟩
    refine ⟨(by omega), ?_⟩
    intro μ12 eμ12
    subst eμ12
    replace C := C.up (q := 52 + 5 * j) (v := 1 + and32 (shr32 z6 6) 7) ⟨by omega, by rw [hi_52 hj]; omega⟩
    replace h1 := h1.up (q := 52 + 5 * j) (v := 1 + and32 (shr32 z6 6) 7) (by omega)
    replace h5 := h5.up (q := 52 + 5 * j) (v := 1 + and32 (shr32 z6 6) 7) (by omega)
    refine ⟨(by unfold i32; omega), ?_⟩
    refine ⟨(by unfold i32; omega), ?_⟩
    refine ⟨(by unfold i32; omega), ?_⟩
    refine ⟨(by omega), ?_⟩
    intro μ13 eμ13
    subst eμ13
    replace C := C.up (q := 53 + 5 * j) (v := 1 + and32 (shr32 z6 9) 3) ⟨by omega, by rw [hi_53 hj]; omega⟩
    replace h1 := h1.up (q := 53 + 5 * j) (v := 1 + and32 (shr32 z6 9) 3) (by omega)
    replace h5 := h5.up (q := 53 + 5 * j) (v := 1 + and32 (shr32 z6 9) 3) (by omega)
    refine ⟨(by unfold i32; omega), ?_⟩
    refine ⟨(by unfold i32; omega), ?_⟩
    refine ⟨(by unfold i32; omega), ?_⟩
    refine ⟨(by omega), ?_⟩
    intro μ14 eμ14
    subst eμ14
    replace C := C.up (q := 54 + 5 * j) (v := 1 + and32 (shr32 z6 11) 3) ⟨by omega, by rw [hi_54 hj]; omega⟩
    replace h1 := h1.up (q := 54 + 5 * j) (v := 1 + and32 (shr32 z6 11) 3) (by omega)
    replace h5 := h5.up (q := 54 + 5 * j) (v := 1 + and32 (shr32 z6 11) 3) (by omega)
    refine ⟨(by unfold i32; omega), ?_⟩
    refine nx _ _ _ C h1 (fun i i0 i1 => ?_)
    by_cases c : i = j
    · subst c
      have f1 : (50 + 5 * i + 1 : Int) = 51 + 5 * i := by omega
      have f2 : (50 + 5 * i + 2 : Int) = 52 + 5 * i := by omega
      have f3 : (50 + 5 * i + 3 : Int) = 53 + 5 * i := by omega
      have f4 : (50 + 5 * i + 4 : Int) = 54 + 5 * i := by omega
      rw [f1, f2, f3, f4, u1_s, u1_n (by omega), u1_n (by omega), u1_n (by omega), u1_s, u1_n (by omega), u1_n (by omega), u1_s, u1_n (by omega), u1_s]
      omega
    · exact h5 i i0 (by omega)
theorem d_224 (hx : (GX X).2[x]? = some (10, 200)) (C : DRX x ρ0 μ0 E ρ μ) (h1 : rD1 2 E) : qX mL_drawn (GX X) (fun z ρ' μ' => z = ((x : Nat) : Int) ∧ ∃ E, DRX x ρ0 μ0 E ρ' μ' ∧ DW E) (GX X) (1, 200) 224 [some (qP sid), some (qP x), none, some (qI 0), none] [] ρ μ := by
  refine d_tro hx C h1 (fun i i0 i1 => by omega) (by decide) (fun _ _ _ C h1 h5 => ?_)
  refine d_tro hx C h1 h5 (by decide) (fun _ _ _ C h1 h5 => ?_)
  refine d_tro hx C h1 h5 (by decide) (fun _ _ E C h1 h5 => ?_)
  refine w_L_drawn_224 hx ?_
  refine ⟨fun hc1 => ?_, fun hc1 => ?_⟩
  · refine ⟨_, h_cell (by omega), ?_⟩
    rintro z1 ρ2 μ3 ⟨hz, hq2_1, hq2_2⟩
    obtain rfl := hq2_1.symm
    obtain rfl := hq2_2.symm
    have b1 := and_m (x := z1) (m := 7) (by decide)
    refine ⟨(by omega), ?_⟩
    refine ⟨(by unfold i32; omega), ?_⟩
    refine ⟨(by omega), ?_⟩
    intro μ5 eμ5
    subst eμ5
    replace C := C.up (q := 70) (v := 2 + and32 z1 7 % 5) ⟨by omega, by show _ ≤ (6 : Int); omega⟩
    replace h1 := h1.up (q := 70) (v := 2 + and32 z1 7 % 5) (by omega)
    replace h5 := h5.up (q := 70) (v := 2 + and32 z1 7 % 5) (by omega)
    exact d_job hx _ 0 _ _ _ (Nat.lt_succ_self _) (by rw [u1_s]; omega) C h1 h5 (by rw [u1_s]; omega) (fun i i0 i1 => by omega)
  · omega
theorem d_196 (hx : (GX X).2[x]? = some (10, 200)) {c : Int} (hc : i32 c) : ∀ (k : Nat) (j : Int) (E : Int → Int) (ρ : Rf) (μ : Mem), (4 - j).toNat < k → 0 ≤ j ∧ j ≤ 4 → DRX x ρ0 μ0 E ρ μ → rD1 2 E → qX mL_drawn (GX X) (fun z ρ' μ' => z = ((x : Nat) : Int) ∧ ∃ E, DRX x ρ0 μ0 E ρ' μ' ∧ DW E) (GX X) (1, 200) 196 [some (qP sid), some (qP x), some (qI c), some (qI j), none] [] ρ μ := by
  intro k
  induction k with
  | zero => intro j E ρ μ hk; omega
  | succ k ih =>
    intro j E ρ μ hk hj C h1
    refine w_L_drawn_196 hx ?_
    refine ⟨fun hc1 => ?_, fun hc1 => ?_⟩
    · exact d_224 hx C h1
    · have b1 := and_m (x := shr32 c (6 * j)) (m := 63) (by decide)
      refine ⟨(by unfold i32; omega), ?_⟩
      refine ⟨(by unfold i32; omega), ?_⟩
      refine ⟨(by omega), ?_⟩
      intro μ1 eμ1
      subst eμ1
      replace C := C.up (q := 42 + j) (v := and32 (shr32 c (6 * j)) 63) ⟨by omega, by rw [hi_42 (by omega)]; omega⟩
      replace h1 := h1.up (q := 42 + j) (v := and32 (shr32 c (6 * j)) 63) (by omega)
      refine ⟨(by unfold i32; omega), ?_⟩
      exact ih _ _ _ _ (by omega) (by omega) C h1
theorem d_159 (hx : (GX X).2[x]? = some (10, 200)) {c : Int} (hc : i32 c) : ∀ (k : Nat) (j : Int) (E : Int → Int) (ρ : Rf) (μ : Mem), (2 - j).toNat < k → 0 ≤ j ∧ j ≤ 2 → DRX x ρ0 μ0 E ρ μ → rD1 2 E → qX mL_drawn (GX X) (fun z ρ' μ' => z = ((x : Nat) : Int) ∧ ∃ E, DRX x ρ0 μ0 E ρ' μ' ∧ DW E) (GX X) (1, 200) 159 [some (qP sid), some (qP x), some (qI c), some (qI j), none] [] ρ μ := by
  intro k
  induction k with
  | zero => intro j E ρ μ hk; omega
  | succ k ih =>
    intro j E ρ μ hk hj C h1
    refine w_L_drawn_159 hx ?_
    refine ⟨fun hc1 => ?_, fun hc1 => ?_⟩
    · refine ⟨_, h_cell (by omega), ?_⟩
      rintro z1 ρ2 μ3 ⟨hz, hq2_1, hq2_2⟩
      obtain rfl := hq2_1.symm
      obtain rfl := hq2_2.symm
      exact d_196 hx hz _ 0 _ _ _ (Nat.lt_succ_self _) (by decide) C h1
    · have b1 := and_m (x := shr32 c (16 + 5 * j)) (m := 31) (by decide)
      refine ⟨(by unfold i32; omega), ?_⟩
      refine ⟨(by unfold i32; omega), ?_⟩
      refine ⟨(by unfold i32; omega), ?_⟩
      refine ⟨(by omega), ?_⟩
      intro μ5 eμ5
      subst eμ5
      replace C := C.up (q := 40 + j) (v := and32 (shr32 c (16 + 5 * j)) 31) ⟨by omega, by rw [hi_40 (by omega)]; omega⟩
      replace h1 := h1.up (q := 40 + j) (v := and32 (shr32 c (16 + 5 * j)) 31) (by omega)
      refine ⟨(by unfold i32; omega), ?_⟩
      exact ih _ _ _ _ (by omega) (by omega) C h1
theorem d_132 (hx : (GX X).2[x]? = some (10, 200)) {c : Int} (hc : i32 c) : ∀ (k : Nat) (j : Int) (E : Int → Int) (ρ : Rf) (μ : Mem), (4 - j).toNat < k → 0 ≤ j ∧ j ≤ 4 → DRX x ρ0 μ0 E ρ μ → rD1 2 E → qX mL_drawn (GX X) (fun z ρ' μ' => z = ((x : Nat) : Int) ∧ ∃ E, DRX x ρ0 μ0 E ρ' μ' ∧ DW E) (GX X) (1, 200) 132 [some (qP sid), some (qP x), some (qI c), some (qI j), none] [] ρ μ := by
  intro k
  induction k with
  | zero => intro j E ρ μ hk; omega
  | succ k ih =>
    intro j E ρ μ hk hj C h1
    refine w_L_drawn_132 hx ?_
    refine ⟨fun hc1 => ?_, fun hc1 => ?_⟩
    · exact d_159 hx hc _ 0 _ _ _ (Nat.lt_succ_self _) (by decide) C h1
    · have b1 := and_m (x := shr32 c (4 * j)) (m := 15) (by decide)
      refine ⟨(by unfold i32; omega), ?_⟩
      refine ⟨(by unfold i32; omega), ?_⟩
      refine ⟨(by omega), ?_⟩
      intro μ1 eμ1
      subst eμ1
      replace C := C.up (q := 30 + j) (v := and32 (shr32 c (4 * j)) 15) ⟨by omega, by rw [hi_30 (by omega)]; omega⟩
      replace h1 := h1.up (q := 30 + j) (v := and32 (shr32 c (4 * j)) 15) (by omega)
      refine ⟨(by unfold i32; omega), ?_⟩
      exact ih _ _ _ _ (by omega) (by omega) C h1
theorem d_60 (hx : (GX X).2[x]? = some (10, 200)) : ∀ (k : Nat) (j : Int) (E : Int → Int) (ρ : Rf) (μ : Mem), (4 - j).toNat < k → 0 ≤ j ∧ j ≤ 4 → DRX x ρ0 μ0 E ρ μ → rD1 2 E → qX mL_drawn (GX X) (fun z ρ' μ' => z = ((x : Nat) : Int) ∧ ∃ E, DRX x ρ0 μ0 E ρ' μ' ∧ DW E) (GX X) (1, 200) 60 [some (qP sid), some (qP x), none, some (qI j), none] [] ρ μ := by
  intro k
  induction k with
  | zero => intro j E ρ μ hk; omega
  | succ k ih =>
    intro j E ρ μ hk hj C h1
    refine w_L_drawn_60 hx ?_
    refine ⟨fun hc1 => ?_, fun hc1 => ?_⟩
    · refine ⟨_, h_cell (by omega), ?_⟩
      rintro z1 ρ2 μ3 ⟨hz, hq2_1, hq2_2⟩
      obtain rfl := hq2_1.symm
      obtain rfl := hq2_2.symm
      exact d_132 hx hz _ 0 _ _ _ (Nat.lt_succ_self _) (by decide) C h1
    · refine ⟨(by unfold i32; omega), ?_⟩
      refine ⟨_, h_cell (by omega), ?_⟩
      rintro z5 ρ6 μ7 ⟨hz, hq5_1, hq5_2⟩
      obtain rfl := hq5_1.symm
      obtain rfl := hq5_2.symm
      have b1 := and_m (x := z5) (m := 31) (by decide)
      have b2 := and_m (x := shr32 z5 5) (m := 15) (by decide)
      have b3 := and_m (x := shr32 z5 9) (m := 31) (by decide)
      refine ⟨(by unfold i32; omega), ?_⟩
      refine ⟨(by unfold i32; omega), ?_⟩
      refine ⟨(by omega), ?_⟩
      intro μ9 eμ9
      subst eμ9
      replace C := C.up (q := 10 + 3 * j) (v := and32 z5 31) ⟨by omega, by rw [hi_10 ⟨by omega, by omega⟩]; omega⟩
      replace h1 := h1.up (q := 10 + 3 * j) (v := and32 z5 31) (by omega)
      refine ⟨(by unfold i32; omega), ?_⟩
      refine ⟨(by unfold i32; omega), ?_⟩
      refine ⟨(by omega), ?_⟩
      intro μ10 eμ10
      subst eμ10
      replace C := C.up (q := 11 + 3 * j) (v := and32 (shr32 z5 5) 15) ⟨by omega, by rw [hi_10 ⟨by omega, by omega⟩]; omega⟩
      replace h1 := h1.up (q := 11 + 3 * j) (v := and32 (shr32 z5 5) 15) (by omega)
      refine ⟨(by unfold i32; omega), ?_⟩
      refine ⟨(by unfold i32; omega), ?_⟩
      refine ⟨(by omega), ?_⟩
      intro μ11 eμ11
      subst eμ11
      replace C := C.up (q := 12 + 3 * j) (v := and32 (shr32 z5 9) 31) ⟨by omega, by rw [hi_10 ⟨by omega, by omega⟩]; omega⟩
      replace h1 := h1.up (q := 12 + 3 * j) (v := and32 (shr32 z5 9) 31) (by omega)
      refine ⟨(by unfold i32; omega), ?_⟩
      exact ih _ _ _ _ (by omega) (by omega) C h1
theorem d_14 (hx : (GX X).2[x]? = some (10, 200)) {c : Int} (hc : i32 c) : ∀ (k : Nat) (j : Int) (E : Int → Int) (ρ : Rf) (μ : Mem), (2 - j).toNat < k → 0 ≤ j ∧ j ≤ 2 → DRX x ρ0 μ0 E ρ μ → rD1 j E → qX mL_drawn (GX X) (fun z ρ' μ' => z = ((x : Nat) : Int) ∧ ∃ E, DRX x ρ0 μ0 E ρ' μ' ∧ DW E) (GX X) (1, 200) 14 [some (qP sid), some (qP x), some (qI c), some (qI j), none] [] ρ μ := by
  intro k
  induction k with
  | zero => intro j E ρ μ hk; omega
  | succ k ih =>
    intro j E ρ μ hk hj C h1
    refine w_L_drawn_14 hx ?_
    refine ⟨fun hc1 => ?_, fun hc1 => ?_⟩
    · obtain rfl : j = 2 := by omega
      exact d_60 hx _ 0 _ _ _ (Nat.lt_succ_self _) (by decide) C h1
    · have b1 := and_m (x := shr32 c (13 * j)) (m := 63) (by decide)
      have b2 := and_m (x := shr32 c (13 * j + 6)) (m := 127) (by decide)
      refine ⟨(by unfold i32; omega), ?_⟩
      refine ⟨(by omega), ?_⟩
      intro μ1 eμ1
      subst eμ1
      replace C := C.up (q := j) (v := and32 (shr32 c (13 * j)) 63) ⟨by omega, by rw [hi_0 (by omega)]; omega⟩
      replace h1 := h1.up (q := j) (v := and32 (shr32 c (13 * j)) 63) (by omega)
      have ej : up2 μ x j (and32 (shr32 c (13 * j)) 63) x j = and32 (shr32 c (13 * j)) 63 := up2_s
      refine ⟨(by unfold i32; omega), ?_⟩
      refine ⟨(by omega), ?_⟩
      refine ⟨(by unfold i32; omega), ?_⟩
      refine ⟨(by unfold i32; omega), ?_⟩
      rw [ej]
      refine ⟨(by unfold i32; omega), ?_⟩
      refine ⟨(by omega), ?_⟩
      intro μ2 eμ2
      subst eμ2
      replace C := C.up (q := 2 + j) (v := and32 (shr32 c (13 * j)) 63 + and32 (shr32 c (13 * j + 6)) 127) ⟨by omega, by rw [hi_2 (by omega)]; omega⟩
      refine ⟨(by unfold i32; omega), ?_⟩
      refine ih _ _ _ _ (by omega) (by omega) C (fun t t0 t1 => ?_)
      by_cases c : t = j
      · subst c
        rw [u1_n (by omega), u1_s, u1_s]
        omega
      · rw [u1_n (show t ≠ 2 + j by omega), u1_n (show 2 + t ≠ 2 + j by omega)]
        exact h1 t t0 (by omega)
end DRW
theorem h_drawn {ρ : Rf} {μ : Mem} {X : List Sh} (hl : X.length < 1000) : qE mL_drawn (GX (X ++ [(10, 200)])) (GX X) [qP sid] ρ μ (fun z ρ' μ' => z = ((178 + X.length : Nat) : Int) ∧ ∃ E, DRX (178 + X.length) ρ μ E ρ' μ' ∧ DW E) := by
  refine qE_pre fun hM _ => ?_
  have hM4 : μ (178 + X.length) = fun _ => 0 := by
    funext k
    exact (hM.2.2.2 _ (by rw [GX_len]; exact Nat.le_refl _) k).2
  refine e_L_drawn ⟨hl, _, h_cell (by decide), ?_⟩
  rintro z1 ρ2 μ3 ⟨hz, rfl, rfl⟩
  exact d_14 shXe hz _ 0 (fun _ => 0) _ _ (Nat.lt_succ_self _) (by decide) ⟨rfl, fun _ _ => rfl, hM4, fun k => ⟨Int.le_refl _, hi_n⟩⟩ (fun t t0 t1 => by omega)
