/-! ===== the law writes words and numbers ===== -/
def WPo (T : List Int) (x : Nat) (ρ : Rf) (μ : Mem) : Int → Rf → Mem → Prop := fun _ ρ' μ' => ∃ σ', LI ρ' μ' σ' ∧ WT T σ' (μ' x) ∧ OUX x ρ μ ρ' μ'
def sayB (w : Int) (i : Nat) : Int := and64 (shr64 w ((8 * i : Nat) : Int)) 255
def sayL (w : Int) : Nat → List Int
  | 0 => []
  | n + 1 => (if sayB w n = 0 then [] else [sayB w n]) ++ sayL w n
def digs (v : Int) : List Int := if v < 10 then [48 + v] else if v < 100 then [48 + v / 10, 48 + v % 10] else [48 + v / 100, 48 + v / 10 % 10, 48 + v % 10]
theorem sayL_len {w : Int} : ∀ n : Nat, (sayL w n).length ≤ n
  | 0 => Nat.le_refl _
  | n + 1 => by
    have := sayL_len (w := w) n
    show ((if sayB w n = 0 then [] else [sayB w n]) ++ sayL w n).length ≤ n + 1
    rw [List.length_append]
    split <;> simp <;> omega
section SAY
variable {ρ ρ0 : Rf} {μ μ0 : Mem} {σ : Sg} {X : List Sh} {x : Nat} {T : List Int} {w v : Int}
theorem l_say4 (hx : (GX X).2[x]? = some (10, 7)) (h178 : 178 ≤ x) (hb : ∀ i : Nat, i < 8 → 0 ≤ sayB w i ∧ sayB w i < 256 ∧ l2i (sayB w i) = sayB w i) : ∀ (n : Nat) (T : List Int) (ρ : Rf) (μ : Mem) (σ : Sg), n ≤ 8 → LI ρ μ σ → WT T σ (μ x) → OUX x ρ0 μ0 ρ μ → T.length + n < 880 → qX mL_say (GX X) (WPo (T ++ sayL w n) x ρ0 μ0) (GX X) (0, 0) 4 [some (qP 0), some (qP x), some (qJ w), none, some (qI (8 * (n : Int) - 8))] [] ρ μ := by
  intro n
  induction n with
  | zero =>
    intro T ρ μ σ hn L W O hT
    refine w_L_say_4 hx ?_
    refine ⟨fun _ => ?_, fun h => by omega⟩
    show WPo (T ++ []) x ρ0 μ0 0 ρ μ
    rw [List.append_nil]
    exact ⟨σ, L, W, O⟩
  | succ n ih =>
    intro T ρ μ σ hn L W O hT
    have hk : 8 * ((n + 1 : Nat) : Int) - 8 = ((8 * n : Nat) : Int) := by omega
    have hk2 : ((8 * n : Nat) : Int) + (-8) = 8 * (n : Int) - 8 := by omega
    have eb : and64 (shr64 w ((8 * n : Nat) : Int)) 255 = sayB w n := rfl
    have b := hb n (by omega)
    rw [hk]
    refine w_L_say_4 hx ?_
    rw [eb, hk2]
    refine ⟨fun hc1 => ?_, fun hc1 => ?_⟩
    · omega
    · refine ⟨fun hc3 => ?_, fun hc3 => ?_⟩
      · refine ⟨(by unfold i32; omega), ?_⟩
        have e0 : sayL w (n + 1) = sayL w n := by
          show (if sayB w n = 0 then [] else [sayB w n]) ++ sayL w n = _
          rw [if_pos hc3]
          rfl
        rw [e0]
        exact ih T ρ μ σ (by omega) L W O (by omega)
      · rw [b.2.2]
        refine ⟨_, l_put hx h178 L W ⟨b.1, b.2.1⟩ (by omega), ?_⟩
        rintro z1 ρ2 μ3 ⟨σ1, L1, W1, O1⟩
        refine ⟨(by unfold i32; omega), ?_⟩
        have e0 : T ++ sayL w (n + 1) = (T ++ [sayB w n]) ++ sayL w n := by
          show T ++ ((if sayB w n = 0 then [] else [sayB w n]) ++ sayL w n) = _
          rw [if_neg hc3, List.append_assoc]
        rw [e0]
        exact ih _ _ _ _ (by omega) L1 W1 (O.trans O1) (by rw [List.length_append]; simp; omega)
theorem l_say (hx : (GX X).2[x]? = some (10, 7)) (h178 : 178 ≤ x) (hb : ∀ i : Nat, i < 8 → 0 ≤ sayB w i ∧ sayB w i < 256 ∧ l2i (sayB w i) = sayB w i) (L : LI ρ μ σ) (W : WT T σ (μ x)) (hT : T.length < 872) : qE mL_say (GX X) (GX X) [qP 0, qP x, qJ w] ρ μ (WPo (T ++ sayL w 8) x ρ μ) := by
  refine e_L_say hx ?_
  exact l_say4 hx h178 hb 8 T ρ μ σ (Nat.le_refl _) L W OUX.refl (by omega)
theorem l_num22_0 (hx : (GX X).2[x]? = some (10, 7)) (h178 : 178 ≤ x) (hv : 0 ≤ v) (L : LI ρ μ σ) (W : WT T σ (μ x)) (O : OUX x ρ0 μ0 ρ μ) (hT : T.length < 873) : qX mL_number (GX X) (WPo (T ++ []) x ρ0 μ0) (GX X) (0, 0) 22 [some (qP 0), some (qP x), some (qI v), some (qI 0)] [] ρ μ := by
  refine w_L_number_22 hx ?_
  refine ⟨fun _ => ?_, fun h => by omega⟩
  rw [List.append_nil]
  exact ⟨σ, L, W, O⟩
theorem l_num22_1 (hx : (GX X).2[x]? = some (10, 7)) (h178 : 178 ≤ x) (hv : 0 ≤ v) (L : LI ρ μ σ) (W : WT T σ (μ x)) (O : OUX x ρ0 μ0 ρ μ) (hT : T.length < 872) : qX mL_number (GX X) (WPo (T ++ [48 + v % 10]) x ρ0 μ0) (GX X) (0, 0) 22 [some (qP 0), some (qP x), some (qI v), some (qI 1)] [] ρ μ := by
  refine w_L_number_22 hx ?_
  refine ⟨fun hc1 => ?_, fun hc1 => ?_⟩
  · omega
  · refine ⟨(by exact ⟨hv, by decide⟩), ?_⟩
    refine ⟨(by refine ⟨?_, by decide⟩; rw [Int.ediv_one]; exact hv), ?_⟩
    rw [Int.ediv_one]
    refine ⟨(by unfold i32; omega), ?_⟩
    refine ⟨_, l_put hx h178 L W (by omega) (by omega), ?_⟩
    rintro z1 ρ2 μ3 ⟨σ1, L1, W1, O1⟩
    refine ⟨(by exact ⟨by decide, by decide⟩), ?_⟩
    have k := l_num22_0 hx h178 hv L1 W1 (O.trans O1) (by rw [List.length_append]; simp; omega)
    rw [List.append_assoc] at k
    exact k
theorem l_num22_2 (hx : (GX X).2[x]? = some (10, 7)) (h178 : 178 ≤ x) (hv : 0 ≤ v) (L : LI ρ μ σ) (W : WT T σ (μ x)) (O : OUX x ρ0 μ0 ρ μ) (hT : T.length < 871) : qX mL_number (GX X) (WPo (T ++ [48 + v / 10 % 10, 48 + v % 10]) x ρ0 μ0) (GX X) (0, 0) 22 [some (qP 0), some (qP x), some (qI v), some (qI 10)] [] ρ μ := by
  refine w_L_number_22 hx ?_
  refine ⟨fun hc1 => ?_, fun hc1 => ?_⟩
  · omega
  · refine ⟨(by exact ⟨hv, by decide⟩), ?_⟩
    refine ⟨(by omega), ?_⟩
    refine ⟨(by unfold i32; omega), ?_⟩
    refine ⟨_, l_put hx h178 L W (by omega) (by omega), ?_⟩
    rintro z1 ρ2 μ3 ⟨σ1, L1, W1, O1⟩
    refine ⟨(by exact ⟨by decide, by decide⟩), ?_⟩
    have k := l_num22_1 hx h178 hv L1 W1 (O.trans O1) (by rw [List.length_append]; simp; omega)
    rw [List.append_assoc] at k
    exact k
theorem l_num22_3 (hx : (GX X).2[x]? = some (10, 7)) (h178 : 178 ≤ x) (hv : 0 ≤ v) (L : LI ρ μ σ) (W : WT T σ (μ x)) (O : OUX x ρ0 μ0 ρ μ) (hT : T.length < 870) : qX mL_number (GX X) (WPo (T ++ [48 + v / 100 % 10, 48 + v / 10 % 10, 48 + v % 10]) x ρ0 μ0) (GX X) (0, 0) 22 [some (qP 0), some (qP x), some (qI v), some (qI 100)] [] ρ μ := by
  refine w_L_number_22 hx ?_
  refine ⟨fun hc1 => ?_, fun hc1 => ?_⟩
  · omega
  · refine ⟨(by exact ⟨hv, by decide⟩), ?_⟩
    refine ⟨(by omega), ?_⟩
    refine ⟨(by unfold i32; omega), ?_⟩
    refine ⟨_, l_put hx h178 L W (by omega) (by omega), ?_⟩
    rintro z1 ρ2 μ3 ⟨σ1, L1, W1, O1⟩
    refine ⟨(by exact ⟨by decide, by decide⟩), ?_⟩
    have k := l_num22_2 hx h178 hv L1 W1 (O.trans O1) (by rw [List.length_append]; simp; omega)
    rw [List.append_assoc] at k
    exact k
theorem l_number (hx : (GX X).2[x]? = some (10, 7)) (h178 : 178 ≤ x) (hv : 0 ≤ v ∧ v ≤ 999) (L : LI ρ μ σ) (W : WT T σ (μ x)) (hT : T.length < 870) : qE mL_number (GX X) (GX X) [qP 0, qP x, qI v] ρ μ (WPo (T ++ digs v) x ρ μ) := by
  have k1 : v < 10 → digs v = [48 + v % 10] := fun h => by unfold digs; rw [if_pos h, Int.emod_eq_of_lt hv.1 h]
  have k2 : 10 ≤ v → v < 100 → digs v = [48 + v / 10 % 10, 48 + v % 10] := fun h h2 => by unfold digs; rw [if_neg (by omega), if_pos h2, Int.emod_eq_of_lt (a := v / 10) (by omega) (by omega)]
  have k3 : 100 ≤ v → digs v = [48 + v / 100 % 10, 48 + v / 10 % 10, 48 + v % 10] := fun h => by unfold digs; rw [if_neg (by omega), if_neg (by omega), Int.emod_eq_of_lt (a := v / 100) (by omega) (by omega)]
  refine e_L_number hx ?_
  refine w_L_number_4 hx ?_
  refine ⟨fun h => by omega, fun _ => ⟨fun h => by omega, fun _ => ⟨⟨by decide, by decide⟩, ?_⟩⟩⟩
  show qX _ _ _ _ _ _ [_, _, _, some (qI 100)] _ _ _
  refine w_L_number_4 hx ?_
  refine ⟨fun h => by omega, fun _ => ⟨fun h => ?_, fun h => ⟨⟨by decide, by decide⟩, ?_⟩⟩⟩
  · rw [k3 h]
    exact l_num22_3 hx h178 hv.1 L W OUX.refl (by omega)
  show qX _ _ _ _ _ _ [_, _, _, some (qI 10)] _ _ _
  refine w_L_number_4 hx ?_
  refine ⟨fun h => by omega, fun _ => ⟨fun h2 => ?_, fun h2 => ⟨⟨by decide, by decide⟩, ?_⟩⟩⟩
  · rw [k2 h2 h]
    exact l_num22_2 hx h178 hv.1 L W OUX.refl (by omega)
  show qX _ _ _ _ _ _ [_, _, _, some (qI 1)] _ _ _
  refine w_L_number_4 hx ?_
  refine ⟨fun _ => ?_, fun h => by omega⟩
  rw [k1 h2]
  exact l_num22_1 hx h178 hv.1 L W OUX.refl (by omega)
theorem l_part (hx : (GX X).2[x]? = some (10, 7)) (h178 : 178 ≤ x) (hv : 0 ≤ v ∧ v ≤ 999) (L : LI ρ μ σ) (W : WT T σ (μ x)) (hT : T.length < 860) : qE mL_part (GX X) (GX X) [qP 0, qP x, qI v] ρ μ (WPo (T ++ ([32] ++ digs v)) x ρ μ) := by
  refine e_L_part hx ?_
  refine ⟨_, l_put hx h178 L W (by omega) (by omega), ?_⟩
  rintro z1 ρ2 μ3 ⟨σ1, L1, W1, O1⟩
  refine ⟨_, l_number hx h178 hv L1 W1 (by rw [List.length_append]; simp; omega), ?_⟩
  rintro z5 ρ6 μ7 ⟨σ2, L2, W2, O2⟩
  exact ⟨σ2, L2, by rw [← List.append_assoc]; exact W2, O1.trans O2⟩
theorem tea_b : ∀ i : Nat, i < 8 → 0 ≤ sayB 544499041 i ∧ sayB 544499041 i < 256 ∧ l2i (sayB 544499041 i) = sayB 544499041 i := by decide +kernel
theorem rice_b : ∀ i : Nat, i < 8 → 0 ≤ sayB 139358462821 i ∧ sayB 139358462821 i < 256 ∧ l2i (sayB 139358462821 i) = sayB 139358462821 i := by decide +kernel
def teaW : List Int := [116, 101, 97]
def riceW : List Int := [114, 105, 99, 101]
theorem tea_l : sayL 544499041 8 = [32] ++ teaW := by decide +kernel
theorem rice_l : sayL 139358462821 8 = [32] ++ riceW := by decide +kernel
theorem l_mealName (hx : (GX X).2[x]? = some (10, 7)) (h178 : 178 ≤ x) (L : LI ρ μ σ) (W : WT T σ (μ x)) (hT : T.length < 860) : qE mL_mealName (GX X) (GX X) [qP 0, qP x, qI v] ρ μ (WPo (T ++ ([32] ++ (if v = 0 then teaW else riceW))) x ρ μ) := by
  refine e_L_mealName hx ?_
  refine ⟨fun hc1 => ?_, fun hc1 => ?_⟩
  · refine ⟨_, l_say hx h178 rice_b L W (by omega), ?_⟩
    rintro z1 ρ2 μ3 ⟨σ1, L1, W1, O1⟩
    rw [if_neg hc1, ← rice_l]
    exact ⟨σ1, L1, W1, O1⟩
  · refine ⟨_, l_say hx h178 tea_b L W (by omega), ?_⟩
    rintro z5 ρ6 μ7 ⟨σ1, L1, W1, O1⟩
    rw [if_pos hc1, ← tea_l]
    exact ⟨σ1, L1, W1, O1⟩
/-- behind the text blanks up to twenty; the length of the text comes back -/
theorem l_said5 (hx : (GX X).2[x]? = some (10, 7)) (h178 : 178 ≤ x) (T0 : List Int) : ∀ (n : Nat) (T : List Int) (ρ : Rf) (μ : Mem) (σ : Sg), (20 - T.length % 20) % 20 < n → LI ρ μ σ → WT T σ (μ x) → OUX x ρ0 μ0 ρ μ → (T0.length ≤ T.length ∧ ∀ k : Nat, k < T0.length → T.getD k 0 = T0.getD k 0) → T.length + (20 - T.length % 20) % 20 < 880 → qX mL_said (GX X) (fun z ρ' μ' => z = T0.length ∧ ∃ σ', LI ρ' μ' σ' ∧ (T0.length : Int) ≤ σ' 0 0 ∧ (∀ k : Nat, k < T0.length → σ' 1 k = T0.getD k 0) ∧ OUX x ρ0 μ0 ρ' μ') (GX X) (0, 0) 5 [some (qP 0), some (qP x), some (qI T0.length)] [] ρ μ := by
  intro n
  induction n with
  | zero => intro T ρ μ σ h; omega
  | succ n ih =>
    intro T ρ μ σ hn L W O hT hl
    obtain ⟨f, r, ⟨h1, hf⟩, hr, h0, hb, h5, h6, hy⟩ := id W
    refine w_L_said_5 hx ?_
    refine ⟨(by omega), ?_⟩
    refine ⟨fun hc2 => ?_, fun hc2 => ?_⟩
    · refine ⟨(by omega), ?_⟩
      intro μ1 eμ1; subst eμ1
      rw [h5] at hc2
      exact ⟨rfl, σ, L.up h178, by rw [h0]; omega, fun k hk => by rw [hb k (by omega)]; exact hT.2 k hk, O.up⟩
    · refine ⟨_, l_put hx h178 L W (by omega) (by omega), ?_⟩
      rintro z2 ρ3 μ4 ⟨σ1, L1, W1, O1⟩
      rw [h5] at hc2
      refine ih _ _ _ _ ?_ L1 W1 (O.trans O1) ⟨?_, fun k hk => ?_⟩ ?_
      · rw [List.length_append]; simp; omega
      · rw [List.length_append]; omega
      · rw [← hT.2 k hk, List.getD_eq_getElem?_getD, List.getD_eq_getElem?_getD, List.getElem?_append_left (by omega)]
      · rw [List.length_append]; simp; omega
theorem l_said (hx : (GX X).2[x]? = some (10, 7)) (h178 : 178 ≤ x) (L : LI ρ μ σ) (W : WT T σ (μ x)) (hT : T.length < 850) : qE mL_said (GX X) (GX X) [qP 0, qP x] ρ μ (fun z ρ' μ' => z = T.length ∧ ∃ σ', LI ρ' μ' σ' ∧ (T.length : Int) ≤ σ' 0 0 ∧ (∀ k : Nat, k < T.length → σ' 1 k = T.getD k 0) ∧ OUX x ρ μ ρ' μ') := by
  obtain ⟨f, r, ⟨h1, hf⟩, hr, h0, hb, h5, h6, hy⟩ := id W
  refine e_L_said hx ?_
  refine ⟨(by omega), ?_⟩
  rw [h6]
  exact l_said5 hx h178 T 20 T ρ μ σ (by omega) L W OUX.refl ⟨Nat.le_refl _, fun _ _ => rfl⟩ (by omega)
end SAY
