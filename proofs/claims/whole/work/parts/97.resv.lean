/-! ===== which of the reserved words a word is ===== -/
def offT : List Int := [1, 7, 11, 16, 24, 30, 38, 42, 47, 50]
def lenT : List Nat := [5, 3, 4, 7, 5, 7, 3, 4, 2]
def kwT : List Int := [500135192942, 6513010, 1835360620, 30233771112949102, 495874696043, 32776920184415609, 6975330, 1718775661, 29807]
def off (n : Nat) : Int := offT.getD n 0
def kwF (x : Int) : Nat → Nat → Int
  | 0, _ => -1
  | m + 1, n => if x = kwT.getD n 0 then (n : Int) else kwF x m (n + 1)
/-- the reserved word's number, or -1 -/
def kwI (x : Int) : Int := kwF x 9 0
theorem off_tab : ∀ n : Nat, n < 9 → kwT.getD n 0 = wd 256 0 resC (off n) (lenT.getD n 0) ∧ lenT.getD n 0 ≤ 7 ∧ 1 ≤ lenT.getD n 0 ∧ resC (off n + (lenT.getD n 0 : Nat)) = 32 ∧ off (n + 1) = off n + (lenT.getD n 0 : Nat) + 1 ∧ 0 ≤ off n ∧ off n + (lenT.getD n 0 : Nat) ≤ 49 := by decide +kernel
theorem off_let : ∀ n : Nat, n < 9 → ∀ j : Nat, j < 8 → j < lenT.getD n 0 → 97 ≤ resC (off n + (j : Nat)) ∧ resC (off n + (j : Nat)) ≤ 122 := by decide +kernel
theorem off_one : ∀ n : Nat, n < 9 → ∀ k : Nat, k < 9 → resC (off n + (k : Nat)) = 32 → (∀ j : Nat, j < k → resC (off n + (j : Nat)) ≠ 32) → k = lenT.getD n 0 := by decide +kernel
section RSV
variable {ρ : Rf} {μ : Mem} {b : Int → Int} {n : Int}
theorem mt_iff {s : Int} {K N : Nat} (hN : N < 9) (hK : K ≤ 8) (hl : ∀ j, s ≤ j → j < s + K → 97 ≤ b j ∧ b j ≤ 122) : wd 256 0 b s K = kwT.getD N 0 ↔ ((∀ j : Int, 0 ≤ j → j < K → resC (off N + j) = b (s + j)) ∧ resC (off N + K) = 32) := by
  obtain ⟨t1, t2, t3, t4, t5, t6, t7⟩ := off_tab N hN
  have lt := off_let N hN
  constructor
  · intro e
    rw [t1] at e
    obtain ⟨rfl, q⟩ := wd_inj (B := 256) (A := 0) (fun x y d e _ _ _ _ _ => by omega) (by decide) K _ (fun j j0 j1 => by have := hl j j0 j1; omega) (fun j j0 j1 => by
      have := lt (j - off N).toNat (by omega) (by omega)
      rw [show off N + (((j - off N).toNat : Nat) : Int) = j by omega] at this
      omega) e
    exact ⟨fun j j0 j1 => (q j j0 j1).symm, t4⟩
  · rintro ⟨h1, h2⟩
    have e := off_one N hN K (by omega) h2 (fun j hj => by
      rw [h1 j (by omega) (by omega)]
      have := hl (s + j) (by omega) (by omega)
      omega)
    rw [t1, ← e]
    exact wd_c K (fun j j0 j1 => (h1 j j0 j1).symm)
theorem m_reserved {s q : Int} (T : TXm μ b n) (hn : n ≤ 900) (hw : μ 178 6 ≤ 0 → μ 178 8 = 2 → μ 178 9 = s ∧ μ 178 5 = q ∧ 0 ≤ s ∧ s ≤ q ∧ q ≤ n ∧ q - s ≤ 8 ∧ (∀ k, s ≤ k → k < q → 97 ≤ b k ∧ b k ≤ 122)) : qE mX8_reserved GG GG [qP 178] ρ μ (fun z ρ' μ' => z = (if μ 178 6 ≤ 0 ∧ μ 178 8 = 2 then kwI (wd 256 0 b s (q - s).toNat) else -1) ∧ ρ' = ρ ∧ μ' = μ) := by
  have M : (μ 178 6 ≤ 0 ∧ μ 178 8 = 2) → ∀ (m N : Nat), N + m = 9 → kwI (wd 256 0 b s (q - s).toNat) = kwF (wd 256 0 b s (q - s).toNat) m N → qX mX8_reserved GG (fun z ρ' μ' => z = (if μ 178 6 ≤ 0 ∧ μ 178 8 = 2 then kwI (wd 256 0 b s (q - s).toNat) else -1) ∧ ρ' = ρ ∧ μ' = μ) GG (0, 0) 21 [some (qP 178), some (qI (N : Int)), some (qI (off N)), none] [] ρ μ := by
    intro hc
    obtain ⟨e9, e5, s0, sq, qn, q8, hl⟩ := hw hc.1 hc.2
    intro m
    induction m with
    | zero =>
      intro N hN hk
      have N9 : N = 9 := by omega
      subst N9
      refine qX_iload_n 2 dX8_reserved_21 rfl rfl ?_
      refine qX_len dX8_reserved_22 dX8_reserved_24 (Nat.le_of_ble_eq_true rfl) ⟨Nat.le_refl _, Nat.le_refl _⟩ ?_
      refine qX_icmp_ge 127 dX8_reserved_27 rfl (fun _ => ?_) (fun h => absurd h (by decide))
      refine qX_iconst dX8_reserved_127 (by unfold i32; omega) ?_
      exact qX_ireturn rfl dX8_reserved_128 rfl ⟨Nat.le_refl _, Nat.le_refl _⟩ ⟨by rw [if_pos hc, hk]; rfl, rfl, rfl⟩
    | succ m ih =>
      intro N hN hk
      obtain ⟨t1, t2, t3, t4, t5, t6, t7⟩ := off_tab N (by omega)
      have lt := off_let N (by omega)
      have ek : kwF (wd 256 0 b s (q - s).toNat) (m + 1) N = if wd 256 0 b s (q - s).toNat = kwT.getD N 0 then (N : Int) else kwF (wd 256 0 b s (q - s).toNat) m (N + 1) := rfl
      have mi := mt_iff (b := b) (s := s) (K := (q - s).toNat) (N := N) (by omega) (by omega) (fun j j0 j1 => hl j j0 (by omega))
      rw [show (((q - s).toNat : Nat) : Int) = q - s by omega] at mi
      have C101 : ¬ wd 256 0 b s (q - s).toNat = kwT.getD N 0 → ∀ (l j : Nat), lenT.getD N 0 - j < l → j ≤ lenT.getD N 0 → ∀ x : Option AV, qX mX8_reserved GG (fun z ρ' μ' => z = (if μ 178 6 ≤ 0 ∧ μ 178 8 = 2 then kwI (wd 256 0 b s (q - s).toNat) else -1) ∧ ρ' = ρ ∧ μ' = μ) GG (0, 0) 101 [some (qP 178), some (qI (N : Int)), some (qI (off N + j)), x] [] ρ μ := by
        intro hne l
        induction l with
        | zero => intro j h; omega
        | succ l ihl =>
          intro j hj j1 x
          refine qX_ch1 dX8_reserved_101 dX8_reserved_103 dX8_reserved_104 rfl (by omega) (by omega) (Nat.le_of_ble_eq_true rfl) ⟨Nat.le_refl _, Nat.le_refl _⟩ ?_
          refine qX_bip dX8_reserved_107 rfl ?_
          refine qX_icmp_eq 118 dX8_reserved_109 rfl (fun h => ?_) (fun h => ?_)
          · have ej : j = lenT.getD N 0 := by
              by_cases c : j < lenT.getD N 0
              · have := lt j (by omega) c
                omega
              · omega
            refine qR_iinc dX8_reserved_118 rfl (Nat.le_of_ble_eq_true rfl) rfl (by unfold i32; omega) ?_
            refine qR_iinc dX8_reserved_121 rfl (Nat.le_of_ble_eq_true rfl) rfl (by unfold i32; omega) ?_
            refine qX_goto 21 dX8_reserved_124 rfl ?_
            have := ih (N + 1) (by omega) (by rw [hk, ek, if_neg hne])
            rw [t5, ← ej, show ((N + 1 : Nat) : Int) = (N : Int) + 1 by omega] at this
            exact qX_mask [true, true, true, false] this
          · have cj : j < lenT.getD N 0 := by
              by_cases c : j = lenT.getD N 0
              · rw [c] at h; exact absurd t4 h
              · omega
            refine qR_iinc dX8_reserved_112 rfl (Nat.le_of_ble_eq_true rfl) rfl (by unfold i32; omega) ?_
            refine qX_goto 101 dX8_reserved_115 rfl ?_
            have := ihl (j + 1) (by omega) (by omega) x
            rw [show off N + ((j + 1 : Nat) : Int) = off N + j + 1 by omega] at this
            exact this
      have C101' : ¬ wd 256 0 b s (q - s).toNat = kwT.getD N 0 → ∀ x : Option AV, qX mX8_reserved GG (fun z ρ' μ' => z = (if μ 178 6 ≤ 0 ∧ μ 178 8 = 2 then kwI (wd 256 0 b s (q - s).toNat) else -1) ∧ ρ' = ρ ∧ μ' = μ) GG (0, 0) 101 [some (qP 178), some (qI (N : Int)), some (qI (off N)), x] [] ρ μ := by
        intro hne x
        have := C101 hne _ 0 (Nat.lt_succ_self _) (Nat.zero_le _) x
        rw [show off N + ((0 : Nat) : Int) = off N by omega] at this
        exact this
      have C73 : ∀ i : Int, 0 ≤ i → i ≤ q - s → i ≤ lenT.getD N 0 → (∀ j : Int, 0 ≤ j → j < i → resC (off N + j) = b (s + j)) → (i < q - s → resC (off N + i) ≠ b (s + i)) → qX mX8_reserved GG (fun z ρ' μ' => z = (if μ 178 6 ≤ 0 ∧ μ 178 8 = 2 then kwI (wd 256 0 b s (q - s).toNat) else -1) ∧ ρ' = ρ ∧ μ' = μ) GG (0, 0) 73 [some (qP 178), some (qI (N : Int)), some (qI (off N)), some (qI i)] [] ρ μ := by
        intro i i0 i1 i2 hm hx
        refine qX_aload_n 0 dX8_reserved_73 rfl rfl (by decide) ?_
        refine qX_getI 8 9 _ dX8_reserved_74 fs_X8_125 sh178 ?_
        refine qX_iload_n 3 dX8_reserved_77 rfl rfl ?_
        show qX mX8_reserved GG (fun z ρ' μ' => z = (if μ 178 6 ≤ 0 ∧ μ 178 8 = 2 then kwI (wd 256 0 b s (q - s).toNat) else -1) ∧ ρ' = ρ ∧ μ' = μ) GG (0, 0) 78 _ [qI i, qI (μ 178 9)] ρ μ
        rw [e9]
        refine qR_iadd dX8_reserved_78 (by unfold i32; omega) ?_
        refine qX_aload_n 0 dX8_reserved_79 rfl rfl (by decide) ?_
        refine qX_getI 8 5 _ dX8_reserved_80 fs_X8_128 sh178 ?_
        show qX mX8_reserved GG (fun z ρ' μ' => z = (if μ 178 6 ≤ 0 ∧ μ 178 8 = 2 then kwI (wd 256 0 b s (q - s).toNat) else -1) ∧ ρ' = ρ ∧ μ' = μ) GG (0, 0) 83 _ [qI (μ 178 5), qI (s + i)] ρ μ
        rw [e5]
        refine qX_icmp_ne 101 dX8_reserved_83 rfl (fun h => ?_) (fun h => ?_)
        · refine C101' (fun e => ?_) _
          exact hx (by omega) ((mi.mp e).1 i i0 (by omega))
        · have h : s + i = q := by omega
          refine qX_ch2 dX8_reserved_86 dX8_reserved_88 dX8_reserved_89 dX8_reserved_90 dX8_reserved_91 rfl rfl (by omega) (by omega) (Nat.le_of_ble_eq_true rfl) ⟨Nat.le_refl _, Nat.le_refl _⟩ ?_
          refine qX_bip dX8_reserved_94 rfl ?_
          refine qX_icmp_ne 101 dX8_reserved_96 rfl (fun h2 => ?_) (fun h2 => ?_)
          · refine C101' (fun e => h2 ?_) _
            have := (mi.mp e).2
            rwa [show q - s = i by omega] at this
          · refine qX_iload_n 1 dX8_reserved_99 rfl rfl ?_
            refine qX_ireturn rfl dX8_reserved_100 rfl ⟨Nat.le_refl _, Nat.le_refl _⟩ ⟨?_, rfl, rfl⟩
            rw [if_pos hc, hk, ek, if_pos]
            refine mi.mpr ⟨fun j j0 j1 => hm j j0 (by omega), ?_⟩
            rw [show q - s = i by omega]
            omega
      have C32 : ∀ (l : Nat) (i : Int), (q - s - i).toNat < l → 0 ≤ i → i ≤ q - s → i ≤ lenT.getD N 0 → (∀ j : Int, 0 ≤ j → j < i → resC (off N + j) = b (s + j)) → qX mX8_reserved GG (fun z ρ' μ' => z = (if μ 178 6 ≤ 0 ∧ μ 178 8 = 2 then kwI (wd 256 0 b s (q - s).toNat) else -1) ∧ ρ' = ρ ∧ μ' = μ) GG (0, 0) 32 [some (qP 178), some (qI (N : Int)), some (qI (off N)), some (qI i)] [] ρ μ := by
        intro l
        induction l with
        | zero => intro i h; omega
        | succ l ihl =>
          intro i hi i0 i1 i2 hm
          refine qX_aload_n 0 dX8_reserved_32 rfl rfl (by decide) ?_
          refine qX_getI 8 9 _ dX8_reserved_33 fs_X8_125 sh178 ?_
          refine qX_iload_n 3 dX8_reserved_36 rfl rfl ?_
          show qX mX8_reserved GG (fun z ρ' μ' => z = (if μ 178 6 ≤ 0 ∧ μ 178 8 = 2 then kwI (wd 256 0 b s (q - s).toNat) else -1) ∧ ρ' = ρ ∧ μ' = μ) GG (0, 0) 37 _ [qI i, qI (μ 178 9)] ρ μ
          rw [e9]
          refine qR_iadd dX8_reserved_37 (by unfold i32; omega) ?_
          refine qX_aload_n 0 dX8_reserved_38 rfl rfl (by decide) ?_
          refine qX_getI 8 5 _ dX8_reserved_39 fs_X8_128 sh178 ?_
          show qX mX8_reserved GG (fun z ρ' μ' => z = (if μ 178 6 ≤ 0 ∧ μ 178 8 = 2 then kwI (wd 256 0 b s (q - s).toNat) else -1) ∧ ρ' = ρ ∧ μ' = μ) GG (0, 0) 42 _ [qI (μ 178 5), qI (s + i)] ρ μ
          rw [e5]
          refine qX_icmp_ge 73 dX8_reserved_42 rfl (fun h => ?_) (fun h => ?_)
          · exact C73 i i0 i1 i2 hm (fun x => by omega)
          · refine qX_ch2 dX8_reserved_45 dX8_reserved_47 dX8_reserved_48 dX8_reserved_49 dX8_reserved_50 rfl rfl (by omega) (by omega) (Nat.le_of_ble_eq_true rfl) ⟨Nat.le_refl _, Nat.le_refl _⟩ ?_
            refine qX_aload_n 0 dX8_reserved_53 rfl rfl (by decide) ?_
            refine qX_getS 8 2 _ 0 dX8_reserved_54 fs_X8_9 rfl rfl sh178 (x := 179) rfl ?_
            refine qX_aload_n 0 dX8_reserved_57 rfl rfl (by decide) ?_
            refine qX_getI 8 9 _ dX8_reserved_58 fs_X8_125 sh178 ?_
            refine qX_iload_n 3 dX8_reserved_61 rfl rfl ?_
            show qX mX8_reserved GG (fun z ρ' μ' => z = (if μ 178 6 ≤ 0 ∧ μ 178 8 = 2 then kwI (wd 256 0 b s (q - s).toNat) else -1) ∧ ρ' = ρ ∧ μ' = μ) GG (0, 0) 62 _ [qI i, qI (μ 178 9), qP 179, qI (resC (off N + i))] ρ μ
            rw [e9]
            refine qR_iadd dX8_reserved_62 (by unfold i32; omega) ?_
            refine qX_iald dX8_reserved_63 sh179 ⟨by omega, by omega⟩ ?_
            show qX mX8_reserved GG (fun z ρ' μ' => z = (if μ 178 6 ≤ 0 ∧ μ 178 8 = 2 then kwI (wd 256 0 b s (q - s).toNat) else -1) ∧ ρ' = ρ ∧ μ' = μ) GG (0, 0) 64 _ [qI (μ 179 (s + i)), qI (resC (off N + i))] ρ μ
            rw [T.1 (s + i) (by omega) (by omega)]
            refine qX_icmp_ne 73 dX8_reserved_64 rfl (fun h2 => ?_) (fun h2 => ?_)
            · exact C73 i i0 i1 i2 hm (fun _ => h2)
            · refine qR_iinc dX8_reserved_67 rfl (Nat.le_of_ble_eq_true rfl) rfl (by unfold i32; omega) ?_
              refine qX_goto 32 dX8_reserved_70 rfl ?_
              have lb := hl (s + i) (by omega) (by omega)
              have i3 : i < lenT.getD N 0 := by
                by_cases c : i = lenT.getD N 0
                · rw [c, t4] at h2
                  rw [c] at lb
                  omega
                · omega
              refine ihl (i + 1) (by omega) (by omega) (by omega) (by omega) (fun j j0 j1 => ?_)
              by_cases c : j = i
              · rw [c]; omega
              · exact hm j j0 (by omega)
      refine qX_iload_n 2 dX8_reserved_21 rfl rfl ?_
      refine qX_len dX8_reserved_22 dX8_reserved_24 (Nat.le_of_ble_eq_true rfl) ⟨Nat.le_refl _, Nat.le_refl _⟩ ?_
      refine qX_icmp_ge 127 dX8_reserved_27 rfl (fun h => ?_) (fun _ => ?_)
      · exfalso; omega
      · refine qX_iconst dX8_reserved_30 (i32_of rfl) ?_
        refine qX_istore_n 3 dX8_reserved_31 rfl (Nat.le_of_ble_eq_true rfl) rfl ?_
        exact C32 _ 0 (Nat.lt_succ_self _) (by omega) (by omega) (by omega) (fun j j0 j1 => by omega)
  have X : ¬ (μ 178 6 ≤ 0 ∧ μ 178 8 = 2) → qX mX8_reserved GG (fun z ρ' μ' => z = (if μ 178 6 ≤ 0 ∧ μ 178 8 = 2 then kwI (wd 256 0 b s (q - s).toNat) else -1) ∧ ρ' = ρ ∧ μ' = μ) GG (0, 0) 15 [some (qP 178), none, none, none] [] ρ μ := by
    intro hc
    refine qX_iconst dX8_reserved_15 (by unfold i32; omega) ?_
    exact qX_ireturn rfl dX8_reserved_16 rfl ⟨Nat.le_refl _, Nat.le_refl _⟩ ⟨by rw [if_neg hc], rfl, rfl⟩
  refine qE_intro pl_X8_reserved (Nat.le_of_ble_eq_true rfl) (Nat.le_refl _) ?_
  refine qX_aload_n 0 dX8_reserved_0 rfl rfl (by decide) ?_
  refine qX_getI 8 6 _ dX8_reserved_1 fs_X8_119 sh178 ?_
  refine qX_if_gt 15 dX8_reserved_4 rfl (fun h => ?_) (fun h => ?_)
  · exact X (fun x => by have : μ 178 6 > 0 := h; omega)
  · refine qX_aload_n 0 dX8_reserved_7 rfl rfl (by decide) ?_
    refine qX_getI 8 8 _ dX8_reserved_8 fs_X8_139 sh178 ?_
    refine qX_iconst dX8_reserved_11 (i32_of rfl) ?_
    refine qX_icmp_eq 17 dX8_reserved_12 rfl (fun h2 => ?_) (fun h2 => ?_)
    · refine qX_iconst dX8_reserved_17 (i32_of rfl) ?_
      refine qX_istore_n 1 dX8_reserved_18 rfl (Nat.le_of_ble_eq_true rfl) rfl ?_
      refine qX_iconst dX8_reserved_19 (i32_of rfl) ?_
      refine qX_istore_n 2 dX8_reserved_20 rfl (Nat.le_of_ble_eq_true rfl) rfl ?_
      have hc : μ 178 6 ≤ 0 ∧ μ 178 8 = 2 := ⟨by have : μ 178 6 ≤ 0 := h; omega, h2⟩
      exact M hc 9 0 rfl rfl
    · exact X (fun x => h2 x.2)
end RSV
