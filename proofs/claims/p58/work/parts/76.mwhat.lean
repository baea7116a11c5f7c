/-! ===== what-if questions: the worst job, the best swap ===== -/
def KK (μ0 μ : Mem) : Prop := ∀ a, a ≠ 180 → (a < 184 ∨ 207 < a) → μ a = μ0 a
theorem KK.refl {μ : Mem} : KK μ μ := fun _ _ _ => rfl
theorem KK.trans {μ0 μ1 μ2 : Mem} (h : KK μ0 μ1) (h2 : KK μ1 μ2) : KK μ0 μ2 := fun a x y => (h2 a x y).trans (h a x y)
theorem KK.go {μ0 μ : Mem} {p : Pl} {wo out : Int} (h : KK μ0 μ) : KK μ0 (sGo p wo out μ) := fun a x y => (sGo_o (by omega)).trans (h a x y)
theorem KK.set {μ0 μ : Mem} {k v : Int} (h : KK μ0 μ) : KK μ0 (up2 μ 180 k v) := fun a x y => (up2_c x).trans (h a x y)
theorem KK.ff {μ0 μ1 μ : Mem} (h : KK μ0 μ1) (hf : FR 178 207 μ μ0) : FR 178 207 μ μ1 := fun a ha => (h a (by omega) (by omega)).trans (hf a ha)
section MW
variable {ρ : Rf} {μ μ0 : Mem} {p : Pl} {σ : Sg}
/-! ### two jobs exchanged -/
def psw (p : Pl) (a b w : Int) : Pl := fun k => if 88 + 5 * a ≤ k ∧ k < 88 + 5 * a + w then p (k - 5 * a + 5 * b) else if 88 + 5 * b ≤ k ∧ k < 88 + 5 * b + w then p (k - 5 * b + 5 * a) else p k
theorem psw_s {a b w : Int} (hab : a ≠ b) (hw : 0 ≤ w ∧ w < 5) : u1 (u1 (psw p a b w) (88 + 5 * a + w) (psw p a b w (88 + 5 * b + w))) (88 + 5 * b + w) (psw p a b w (88 + 5 * a + w)) = psw p a b (w + 1) := by
  have ea : psw p a b w (88 + 5 * a + w) = p (88 + 5 * a + w) := by
    unfold psw
    rw [if_neg (by omega), if_neg (by omega)]
  have eb : psw p a b w (88 + 5 * b + w) = p (88 + 5 * b + w) := by
    unfold psw
    rw [if_neg (by omega), if_neg (by omega)]
  rw [ea, eb]
  funext k
  by_cases h1 : k = 88 + 5 * b + w
  · rw [h1, u1_s]
    unfold psw
    rw [if_neg (by omega), if_pos (by omega)]
    congr 1
    omega
  · rw [u1_n h1]
    by_cases h2 : k = 88 + 5 * a + w
    · rw [h2, u1_s]
      unfold psw
      rw [if_pos (by omega)]
      congr 1
      omega
    · rw [u1_n h2]
      unfold psw
      by_cases h3 : 88 + 5 * a ≤ k ∧ k < 88 + 5 * a + w
      · rw [if_pos h3, if_pos (by omega)]
      · by_cases h4 : 88 + 5 * b ≤ k ∧ k < 88 + 5 * b + w
        · rw [if_neg h3, if_pos h4, if_neg (by omega), if_pos (by omega)]
        · rw [if_neg h3, if_neg h4, if_neg (by omega), if_neg (by omega)]
/-! ### the best swap -/
def bsT (p : Pl) (x k : Nat) : Int := tot (pSwap p (x : Int) ((x : Int) + 1 + k))
def bsL (x k : Nat) : Int := 100 * (x : Int) + ((x : Int) + 1 + k)
def bo2 (p : Pl) : Nat → Int
  | 0 => tot p
  | x + 1 => fm (bo2 p x) (bsT p x) ((p 87).toNat - (x + 1))
def bo1 (p : Pl) : Nat → Int
  | 0 => -1
  | x + 1 => fa (bo2 p x) (bo1 p x) (bsT p x) (bsL x) ((p 87).toNat - (x + 1))
def bsw (p : Pl) : Int := bo1 p (p 87).toNat
theorem c_bestSwap (h0 : CI ρ μ0 σ) (hS : SI σ) : qE mX7_bestSwap GG GG [qP 0] ρ μ0 (PC μ0 ρ (fun J => if σ 0 4 = 1 ∧ 0 ≤ bsw (σ 2) then bsw (σ 2) else -2147483648) (sE σ (if σ 0 4 = 1 then (if 0 ≤ bsw (σ 2) then 0 else 6) else 1))) := by
  have h8 := h0.2.2.2.2.2.2.2.1
  have hb := hS.2.2.1
  have L : σ 0 4 = 1 → ∀ (m : Nat) (x : Nat) (μ : Mem), (σ 2 87).toNat - x < m → (x : Int) ≤ σ 2 87 → CI ρ μ σ → FR 0 177 μ0 μ → SP μ 55 (σ 2) → qX mX7_bestSwap GG (PC μ0 ρ (fun J => if σ 0 4 = 1 ∧ 0 ≤ bsw (σ 2) then bsw (σ 2) else -2147483648) (sE σ (if σ 0 4 = 1 then (if 0 ≤ bsw (σ 2) then 0 else 6) else 1))) GG (0, 0) 36 [some (qP 0), some (qI (bo1 (σ 2) x)), some (qI (bo2 (σ 2) x)), some (qI (x : Int)), none, none] [] ρ μ := by
    intro hp m
    induction m with
    | zero => intro x μ h; omega
    | succ m ihM =>
      intro x μ hm hx h hfr s0
      have ex : ((x : Int) + 1) = ((x + 1 : Nat) : Int) := by omega
      obtain ⟨hv, hf, hs, hr⟩ := h.pl hS hp
      have n := hv.n
      have K : (x : Int) < σ 2 87 → ∀ (l : Nat) (k : Nat) (μ : Mem), (σ 2 87).toNat - (x + 1) - k < l → k ≤ (σ 2 87).toNat - (x + 1) → CI ρ μ σ → FR 0 177 μ0 μ → SP μ 55 (σ 2) → qX mX7_bestSwap GG (PC μ0 ρ (fun J => if σ 0 4 = 1 ∧ 0 ≤ bsw (σ 2) then bsw (σ 2) else -2147483648) (sE σ (if σ 0 4 = 1 then (if 0 ≤ bsw (σ 2) then 0 else 6) else 1))) GG (0, 0) 52 [some (qP 0), some (qI (fa (bo2 (σ 2) x) (bo1 (σ 2) x) (bsT (σ 2) x) (bsL x) k)), some (qI (fm (bo2 (σ 2) x) (bsT (σ 2) x) k)), some (qI (x : Int)), some (qI ((x : Int) + 1 + k)), none] [] ρ μ := by
        intro xl l
        induction l with
        | zero => intro k μ h; omega
        | succ l ih =>
          intro k μ hl hk h hfr s0
          have ek : ((x : Int) + 1 + k) + 1 = (x : Int) + 1 + ((k + 1 : Nat) : Int) := by omega
          obtain ⟨hv, hf, hs, hr⟩ := h.pl hS hp
          have fn := h.1.fn
          have ea : fa (bo2 (σ 2) x) (bo1 (σ 2) x) (bsT (σ 2) x) (bsL x) (k + 1) = if fm (bo2 (σ 2) x) (bsT (σ 2) x) k < bsT (σ 2) x k then bsL x k else fa (bo2 (σ 2) x) (bo1 (σ 2) x) (bsT (σ 2) x) (bsL x) k := rfl
          have em : fm (bo2 (σ 2) x) (bsT (σ 2) x) (k + 1) = if fm (bo2 (σ 2) x) (bsT (σ 2) x) k < bsT (σ 2) x k then bsT (σ 2) x k else fm (bo2 (σ 2) x) (bsT (σ 2) x) k := rfl
          refine w_X7_bestSwap_52 ?_
          refine ⟨(by exact h.1.s), ?_⟩
          rw [hs.n]
          refine ⟨fun hc2 => ?_, fun hc2 => ?_⟩
          · refine ⟨(by unfold i32; omega), ?_⟩
            have ke : k = (σ 2 87).toNat - (x + 1) := by omega
            rw [ex, ke]
            exact ihM (x + 1) μ (by omega) (by omega) h hfr s0
          · refine ⟨_, k_exchange (o := 55) rfl s0 (by omega) (by omega) (by omega), ?_⟩
            rintro z2 ρ3 μ4 ⟨hq5_1, f1, s1⟩
            obtain rfl := hq5_1.symm
            have h1 : CI ρ μ4 σ := h.scr hS (fun a ha => f1 a (by omega))
            refine ⟨_, k_rehearse h1 hS hp s1 (swap_PV hv (by omega) (by omega)) (swap_FEq (by omega) (by omega)), ?_⟩
            rintro z6 ρ7 μ8 ⟨hq6_1, hq6_2, f2, r2⟩
            obtain rfl := hq6_1.symm
            obtain rfl := hq6_2.symm
            have h2 : CI ρ μ8 σ := h1.scr hS (fun a ha => f2 a (by omega))
            have s2 : SP μ8 55 (pSwap (σ 2) (x : Int) ((x : Int) + 1 + k)) := s1.ag (f2.ag (by omega))
            refine ⟨_, k_exchange (o := 55) rfl s2 (by rw [swap_o (by omega) (by omega) (by omega)]; omega) (by rw [swap_o (by omega) (by omega) (by omega)]; omega) (by rw [swap_o (by omega) (by omega) (by omega)]; omega), ?_⟩
            rintro z10 ρ11 μ12 ⟨hq7_1, f3, s3⟩
            obtain rfl := hq7_1.symm
            rw [swap_swap (by omega)] at s3
            have h3 : CI ρ μ12 σ := h2.scr hS (fun a ha => f3 a (by omega))
            have fr3 : FR 0 177 μ0 μ12 := ((hfr.trans (f1.mono (by omega) (by omega))).trans (f2.mono (by omega) (by omega))).trans (f3.mono (by omega) (by omega))
            rw [show tot (pSwap (σ 2) (x : Int) ((x : Int) + 1 + k)) = bsT (σ 2) x k from rfl]
            refine ⟨fun hc8 => ?_, fun hc8 => ?_⟩
            · refine ⟨(by unfold i32; omega), ?_⟩
              rw [if_neg (by omega)] at ea em
              have := ih (k + 1) _ (by omega) (by omega) h3 fr3 s3
              rw [ea, em, ← ek] at this
              exact this
            · refine ⟨(by unfold i32; omega), ?_⟩
              refine ⟨(by unfold i32; omega), ?_⟩
              refine ⟨(by unfold i32; omega), ?_⟩
              rw [if_pos (by omega)] at ea em
              have := ih (k + 1) _ (by omega) (by omega) h3 fr3 s3
              rw [ea, em, ← ek] at this
              exact this
      refine w_X7_bestSwap_36 ?_
      refine ⟨(by exact h.1.s), ?_⟩
      rw [hs.n]
      refine ⟨fun hc2 => ?_, fun hc2 => ?_⟩
      · have we : bo1 (σ 2) x = bsw (σ 2) := by unfold bsw; rw [show (σ 2 87).toNat = x by omega]
        refine ⟨fun hc3 => ?_, fun hc3 => ?_⟩
        · refine ⟨_, k_answer, ?_⟩
          rintro z2 ρ3 μ4 ⟨hq4_1, hq4_2, hq4_3⟩
          obtain rfl := hq4_1.symm
          obtain rfl := hq4_2.symm
          obtain rfl := hq4_3.symm
          exact pc_fin h hS hfr (fun J => by rw [we, if_pos ⟨hp, by omega⟩]) (by rw [if_pos hp, if_pos (by omega)])
        · refine ⟨_, k_fail, ?_⟩
          rintro z6 ρ7 μ8 ⟨hq6_1, hq6_2, hq6_3⟩
          obtain rfl := hq6_1.symm
          obtain rfl := hq6_2.symm
          obtain rfl := hq6_3.symm
          exact pc_fin h hS hfr (fun J => (if_neg (by omega)).symm) (by rw [if_pos hp, if_neg (by omega)])
      · refine ⟨(by unfold i32; omega), ?_⟩
        have := K (by omega) _ 0 μ (Nat.lt_succ_self _) (by omega) h hfr s0
        rw [show (x : Int) + 1 + ((0 : Nat) : Int) = (x : Int) + 1 by omega] at this
        exact this
  refine e_X7_bestSwap ?_
  refine ⟨fun hc1 => ?_, fun hc1 => ?_⟩
  · refine ⟨(by exact h0.1.s), ?_⟩
    have fn := h0.1.fn
    refine ⟨_, k_copyFrom (o := 55) rfl h0.1.s (by omega), ?_⟩
    rintro z2 ρ3 μ4 ⟨hq3_1, f1, c1⟩
    obtain rfl := hq3_1.symm
    have hp : σ 0 4 = 1 := by omega
    have pl := h0.pl hS hp
    have n := pl.1.n
    have h1 : CI ρ μ4 σ := h0.scr hS (fun a ha => f1 a (by omega))
    have pl1 := h1.pl hS hp
    rw [(pl.2.2.2 Z0).2.2]
    exact L hp _ 0 μ4 (Nat.lt_succ_self _) (by omega) h1 (f1.mono (by omega) (by omega)) (c1.sp pl.2.2.1 (by omega))
  · refine ⟨_, k_fail, ?_⟩
    rintro z6 ρ7 μ8 ⟨hq5_1, hq5_2, hq5_3⟩
    obtain rfl := hq5_1.symm
    obtain rfl := hq5_2.symm
    obtain rfl := hq5_3.symm
    exact pc_fin h0 hS FR.refl (fun J => (if_neg (by omega)).symm) (by rw [if_neg (by omega)])
end MW
