/-! ===== bytes, plain answers about the input ===== -/
theorem byt_v (y : BitVec 32) (s : Nat) (hs : s ≤ 24) : y.sshiftRight s &&& 255#32 = ((y >>> s).setWidth 8).setWidth 32 := by
  apply BitVec.eq_of_getLsbD_eq
  intro i hi
  have e : (255#32 : BitVec 32).getLsbD i = decide (i < 8) := by
    rw [show (255#32 : BitVec 32) = BitVec.ofNat 32 (2 ^ 8 - 1) from rfl, BitVec.getLsbD_ofNat, Nat.testBit_two_pow_sub_one]
    simp [hi]
  rw [BitVec.getLsbD_and, e, BitVec.getLsbD_setWidth, BitVec.getLsbD_setWidth, BitVec.getLsbD_sshiftRight, BitVec.getLsbD_ushiftRight]
  by_cases h : i < 8
  · have : s + i < 32 := by omega
    simp [h, hi, this]
  · simp [h]
theorem byt_i (y : BitVec 32) (s : Nat) (hs : s ≤ 24) : (y.sshiftRight s &&& 255#32).toInt = (((y >>> s).setWidth 8).toNat : Int) := by
  rw [byt_v y s hs, BitVec.toInt_eq_toNat_cond, BitVec.toNat_setWidth]
  have h := ((y >>> s).setWidth 8).isLt
  rw [Nat.mod_eq_of_lt (by omega), if_pos (by omega)]
theorem byt_n : ∀ n : Nat, n < 32 → ((Int32.ofInt (n : Int) &&& 31).toBitVec.smod 32).toNat = n := by decide +kernel
theorem byt_m : ∀ n : Nat, n < 32 → (((Int32.ofInt (n : Int)).toUInt32 &&& Int32.toUInt32 31).toBitVec % 32).toNat = n := by decide +kernel
theorem byt_e {x : Int} {s : Nat} (hs : s ≤ 24) : i2b32 (i2b32 (ushr32 x (s : Int))) = sb (and32 (shr32 x (s : Int)) 255) ∧ 0 ≤ and32 (shr32 x (s : Int)) 255 ∧ and32 (shr32 x (s : Int)) 255 ≤ 255 := by
  have a : and32 (shr32 x (s : Int)) 255 = ((((Int32.ofInt x).toBitVec >>> s).setWidth 8).toNat : Int) := by
    unfold and32 shr32
    rw [Int32.ofInt_toInt]
    show (Int32.toBitVec _).toInt = _
    rw [Int32.toBitVec_and, Int32.toBitVec_shiftRight]
    show ((Int32.ofInt x).toBitVec.sshiftRight ((Int32.ofInt (s : Int) &&& 31).toBitVec.smod 32).toNat &&& 255#32).toInt = _
    rw [byt_n s (by omega), byt_i _ _ hs]
  have h := (((Int32.ofInt x).toBitVec >>> s).setWidth 8).isLt
  refine ⟨?_, by omega, by omega⟩
  rw [a]
  unfold i2b32 ushr32
  rw [Int32.ofInt_toInt, Int32.ofInt_toInt, Int8.toInt8_toInt32, Int8.toInt_toInt32]
  show (Int8.toBitVec (Int32.toInt8 _)).toInt = _
  have b : ((((Int32.ofInt x).toUInt32 >>> ((Int32.ofInt (s : Int)).toUInt32 &&& Int32.toUInt32 31)).toInt32).toInt8).toBitVec = ((Int32.ofInt x).toBitVec >>> s).setWidth 8 := by
    show BitVec.signExtend 8 _ = _
    rw [BitVec.signExtend_eq_setWidth_of_le _ (by omega)]
    congr 1
    show (Int32.ofInt x).toBitVec >>> (((Int32.ofInt (s : Int)).toUInt32 &&& Int32.toUInt32 31).toBitVec % 32) = _
    rw [BitVec.ushiftRight_eq', byt_m s (by omega)]
  rw [b, BitVec.toInt_eq_toNat_cond]
  unfold sb
  by_cases q : (((Int32.ofInt x).toBitVec >>> s).setWidth 8).toNat < 128
  · rw [if_pos (by omega), if_pos (by omega)]
  · rw [if_neg (by omega), if_neg (by omega)]
    rfl
section AP
variable {ρ : Rf} {μ : Mem} {σ : Sg}
theorem pc_same {v : Mem → Int} {z : Int} (h : CI ρ μ σ) (hz : ∀ J, z = v J) : PC μ ρ v σ z ρ μ := ⟨hz, h, FR.refl, fun _ _ => rfl⟩
theorem c_error (h : CI ρ μ σ) : qE mX7_error GG GG [qP 0] ρ μ (PC μ ρ (fun _ => σ 0 3) σ) := by
  refine e_X7_error ?_
  exact pc_same h (fun _ => h.2.2.2.2.2.2.1)
/-! ### bytes appended -/
def sB1 (σ : Sg) (b : Int) : Sg := up2 (up2 σ 1 (σ 0 0) b) 0 0 (σ 0 0 + 1)
theorem sB1_c {b : Int} {a : Nat} (h : a ≠ 0) (h1 : a ≠ 1) : sB1 σ b a = σ a := by
  unfold sB1
  rw [up2_c h, up2_c h1]
theorem sB1_k {b k : Int} (h : k ≠ 0) : sB1 σ b 0 k = σ 0 k := by
  unfold sB1
  rw [up2_k h, up2_c (by decide)]
theorem sB1_0 {b : Int} : sB1 σ b 0 0 = σ 0 0 + 1 := up2_s
theorem sB1_1 {b : Int} : sB1 σ b 1 = u1 (σ 1) (σ 0 0) b := by
  unfold sB1
  rw [up2_c (by decide), up2_u]
theorem SI.b1 {b : Int} (h : SI σ) (hn : σ 0 0 < 900) (hb : 0 ≤ b ∧ b ≤ 255) : SI (sB1 σ b) := by
  obtain ⟨a1, a2, a3, a4, a5, a6, a7, a8, a9⟩ := h
  have e : ∀ i : Int, sB1 σ b (4 + i.toNat) = σ (4 + i.toNat) := fun i => sB1_c (by omega) (by omega)
  unfold SI
  simp (disch := omega) only [sB1_k, sB1_c, e, sB1_0, sB1_1]
  refine ⟨by omega, by omega, a3, a4, a5, a6, fun k => ?_, a8, a9⟩
  by_cases hk : k = σ 0 0
  · rw [hk, u1_s]; exact hb
  · rw [u1_n hk]; exact a7 k
theorem CI.b1 {b d : Int} (h : CI ρ μ σ) (hS : SI σ) (hn : σ 0 0 < 900) (hd : d = sb b) : CI ρ (up2 (up2 μ 2 (σ 0 0) d) 1 2 (σ 0 0 + 1)) (sB1 σ b) := by
  subst hd
  obtain ⟨h1, h2, h3, h4, h5, h6, h7, h8, h9, h10⟩ := h
  have fn := h1.fn
  have e : (fun i : Int => sB1 σ b (4 + i.toNat)) = fun i : Int => σ (4 + i.toNat) := by
    funext i
    exact sB1_c (by omega) (by omega)
  unfold CI
  rw [e]
  simp (disch := omega) only [sB1_k, sB1_c, sB1_0, sB1_1]
  refine ⟨h1, h2, up2_s, fun k k0 k1 => ?_, ?_, ?_, ?_, ?_, ?_, fun hp => ?_⟩
  · rw [up2_c (by omega), up2_u]
    by_cases hk : k = σ 0 0
    · rw [hk, u1_s, u1_s]
    · rw [u1_n hk, u1_n hk]; exact h4 k k0 (by omega)
  · rw [up2_k (by omega), up2_c (by omega)]; exact h5
  · rw [up2_k (by omega), up2_c (by omega)]; exact h6
  · rw [up2_c (by omega), up2_c (by omega)]; exact h7
  · rw [up2_c (by omega), up2_c (by omega)]; exact h8
  · rw [up2_c (by omega), up2_c (by omega)]; exact h9
  · obtain ⟨a, b, d, f, g⟩ := h10 hp
    refine ⟨a.ag (AG.up (AG.up AG.refl (by omega)) (by omega)), b.ag (AG.up (AG.up AG.refl (by omega)) (by omega)), ?_, ⟨?_, fun i i0 i1 => ?_⟩, fun hq => (g hq).ag (AG.up (AG.up AG.refl (by omega)) (by omega))⟩
    · unfold RP CJ
      simp (disch := omega) only [up2_c]
      exact d
    · rw [up2_c (by omega), up2_c (by omega)]; exact f.1
    · have q := h2.1 i i0 (by have := hS.2.2.2.2.2.1; omega)
      exact (f.2 i i0 i1).ag (AG.up (AG.up AG.refl (by omega)) (by omega))
def bOf (x : Int) (s : Nat) : Int := and32 (shr32 x (s : Int)) 255
def sF (σ : Sg) (x : Int) : Sg := sB1 (sB1 (sB1 (sB1 σ (bOf x 24)) (bOf x 16)) (bOf x 8)) (bOf x 0)
theorem sF_0 {x : Int} : sF σ x 0 0 = σ 0 0 + 4 := by
  unfold sF
  rw [sB1_0, sB1_0, sB1_0, sB1_0]
  omega
theorem SI.f {x : Int} (h : SI σ) (hn : σ 0 0 + 4 ≤ 900) : SI (sF σ x) := by
  have b := fun s (hs : s ≤ 24) => (byt_e (x := x) (s := s) hs).2
  have h1 := h.b1 (by omega) (b 24 (by omega))
  have h2 := h1.b1 (by rw [sB1_0]; omega) (b 16 (by omega))
  have h3 := h2.b1 (by rw [sB1_0, sB1_0]; omega) (b 8 (by omega))
  exact h3.b1 (by rw [sB1_0, sB1_0, sB1_0]; omega) (b 0 (by omega))
theorem k_putFour {x : Int} (h : CI ρ μ σ) (hS : SI σ) (hn : σ 0 0 + 4 ≤ 900) : qE mX2_putFour GG GG [qP 1, qI x] ρ μ (fun _ ρ' μ' => ρ' = ρ ∧ CI ρ μ' (sF σ x) ∧ FR 0 177 μ μ') := by
  have S : ∀ (s : Nat) (τ : Sg) (ν : Mem), s ≤ 24 → CI ρ ν τ → SI τ → τ 0 0 < 900 → FR 0 177 μ ν → (∀ (ν' : Mem), CI ρ ν' (sB1 τ (bOf x s)) → SI (sB1 τ (bOf x s)) → FR 0 177 μ ν' → qX mX2_putFour GG (fun _ ρ' μ' => ρ' = ρ ∧ CI ρ μ' (sF σ x) ∧ FR 0 177 μ μ') GG (0, 0) 3 [some (qP 1), some (qI x), some (qI ((s : Int) + (-8)))] [] ρ ν') → qX mX2_putFour GG (fun _ ρ' μ' => ρ' = ρ ∧ CI ρ μ' (sF σ x) ∧ FR 0 177 μ μ') GG (0, 0) 3 [some (qP 1), some (qI x), some (qI (s : Int))] [] ρ ν := by
    intro s τ ν hs hc ht hl hf k
    have e := hc.2.2.1
    have p0 := ht.1
    have b := byt_e (x := x) (s := s) hs
    refine w_X2_putFour_3 ?_
    refine ⟨fun hc1 => ?_, fun hc1 => ?_⟩
    · omega
    · refine ⟨fun hc3 => ?_, fun hc3 => ?_⟩
      · refine ⟨(by unfold i32; omega), ?_⟩
        omega
      · refine ⟨(by omega), ?_⟩
        intro μ1 eμ1; subst eμ1
        refine ⟨(by rw [up2_c (by decide)]; unfold i32; omega), ?_⟩
        intro μ2 eμ2; subst eμ2
        refine ⟨(by unfold i32; omega), ?_⟩
        have e2 : up2 ν 2 (ν 1 2) (i2b32 (i2b32 (ushr32 x (s : Int)))) 1 2 = ν 1 2 := by rw [up2_c (by decide)]
        rw [e2, e]
        exact k _ (hc.b1 ht hl b.1) (ht.b1 hl b.2) (FR.up (FR.up hf (by omega)) (by omega))
  have Z : ∀ (ν : Mem), CI ρ ν (sF σ x) → FR 0 177 μ ν → qX mX2_putFour GG (fun _ ρ' μ' => ρ' = ρ ∧ CI ρ μ' (sF σ x) ∧ FR 0 177 μ μ') GG (0, 0) 3 [some (qP 1), some (qI x), some (qI (((0 : Nat) : Int) + (-8)))] [] ρ ν := by
    intro ν c4 f4
    refine w_X2_putFour_3 ?_
    refine ⟨fun hc1 => ?_, fun hc1 => ?_⟩
    · exact ⟨rfl, c4, f4⟩
    · refine ⟨fun hc3 => ?_, fun hc3 => ?_⟩
      · refine ⟨(by unfold i32; omega), ?_⟩
        omega
      · refine ⟨(by omega), ?_⟩
        intro μ1 eμ1; subst eμ1
        refine ⟨(by unfold i32; omega), ?_⟩
        intro μ2 eμ2; subst eμ2
        refine ⟨(by unfold i32; omega), ?_⟩
        omega
  refine e_X2_putFour ?_
  refine S 24 σ μ (by omega) h hS (by omega) FR.refl (fun ν1 c1 s1 f1 => ?_)
  refine S 16 _ ν1 (by omega) c1 s1 (by rw [sB1_0]; omega) f1 (fun ν2 c2 s2 f2 => ?_)
  refine S 8 _ ν2 (by omega) c2 s2 (by rw [sB1_0, sB1_0]; omega) f2 (fun ν3 c3 s3 f3 => ?_)
  refine S 0 _ ν3 (by omega) c3 s3 (by rw [sB1_0, sB1_0, sB1_0]; omega) f3 (fun ν4 c4 s4 f4 => ?_)
  exact Z ν4 c4 f4
def sAp (σ : Sg) (a b c d e : Int) : Sg := sF (sF (sF (sF (sF σ a) b) c) d) e
theorem SI.ap {a b c d e : Int} (h : SI σ) : SI (if σ 0 0 + 20 ≤ 900 then sAp σ a b c d e else σ) := by
  by_cases q : σ 0 0 + 20 ≤ 900
  · rw [if_pos q]
    exact ((((h.f (by omega)).f (by rw [sF_0]; omega)).f (by rw [sF_0, sF_0]; omega)).f (by rw [sF_0, sF_0, sF_0]; omega)).f (by rw [sF_0, sF_0, sF_0, sF_0]; omega)
  · rw [if_neg q]
    exact h
theorem sAp_0 {a b c d e : Int} : sAp σ a b c d e 0 0 = σ 0 0 + 20 := by
  unfold sAp
  rw [sF_0, sF_0, sF_0, sF_0, sF_0]
  omega
theorem c_append {a b c d e : Int} (h : CI ρ μ σ) (hS : SI σ) : qE mX7_append GG GG [qP 0, qI a, qI b, qI c, qI d, qI e] ρ μ (PC μ ρ (fun _ => if σ 0 0 + 20 ≤ 900 then σ 0 0 + 20 else -2147483648) (if σ 0 0 + 20 ≤ 900 then sAp σ a b c d e else σ)) := by
  have h1 := h.2.2.1
  have p0 := hS.1
  have p1 := hS.2.1
  refine e_X7_append ?_
  refine ⟨(by unfold i32; omega), ?_⟩
  refine ⟨fun hc2 => ?_, fun hc2 => ?_⟩
  · refine ⟨_, k_putFour h hS (by omega), ?_⟩
    rintro z1 ρ2 μ3 ⟨hq3_1, c1, f1⟩
    obtain rfl := hq3_1.symm
    have s1 := hS.f (x := a) (by omega)
    refine ⟨_, k_putFour c1 s1 (by rw [sF_0]; omega), ?_⟩
    rintro z5 ρ6 μ7 ⟨hq4_1, c2, f2⟩
    obtain rfl := hq4_1.symm
    have s2 := s1.f (x := b) (by rw [sF_0]; omega)
    refine ⟨_, k_putFour c2 s2 (by rw [sF_0, sF_0]; omega), ?_⟩
    rintro z9 ρ10 μ11 ⟨hq5_1, c3, f3⟩
    obtain rfl := hq5_1.symm
    have s3 := s2.f (x := c) (by rw [sF_0, sF_0]; omega)
    refine ⟨_, k_putFour c3 s3 (by rw [sF_0, sF_0, sF_0]; omega), ?_⟩
    rintro z13 ρ14 μ15 ⟨hq6_1, c4, f4⟩
    obtain rfl := hq6_1.symm
    have s4 := s3.f (x := d) (by rw [sF_0, sF_0, sF_0]; omega)
    refine ⟨_, k_putFour c4 s4 (by rw [sF_0, sF_0, sF_0, sF_0]; omega), ?_⟩
    rintro z17 ρ18 μ19 ⟨hq7_1, c5, f5⟩
    obtain rfl := hq7_1.symm
    unfold PC; rw [if_pos (by omega), if_pos (by omega)]
    exact ⟨fun J => by rw [c5.2.2.1]; exact sAp_0, c5, (((f1.trans f2).trans f3).trans f4).trans f5, fun _ _ => rfl⟩
  · unfold PC; rw [if_neg (by omega), if_neg (by omega)]
    exact ⟨fun _ => rfl, h, FR.refl, fun _ _ => rfl⟩
end AP
