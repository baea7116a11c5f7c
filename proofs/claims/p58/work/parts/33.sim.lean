/-! ===== the reference's run, as functions on memory ===== -/
theorem s_Iu {f : Int → Int} {n i v : Int} (hn : 0 ≤ n) (h : 0 ≤ i ∧ i < n) : s_I (u1 f i v) n = s_I f n - f i + v := by
  revert h
  refine i_ind (P := fun n => (0 ≤ i ∧ i < n) → s_I (u1 f i v) n = s_I f n - f i + v) ?_ ?_ n hn
  · intro h; omega
  · intro n hn ih h
    rw [s_Is hn, s_Is hn]
    by_cases hi : i = n
    · rw [hi, u1_s, s_Ic hn (g := f) (fun j h1 h2 => u1_n (by omega))]
      omega
    · rw [ih (by omega), u1_n (by omega)]
      omega
theorem s_Id {f g : Int → Int} {n : Int} (hn : 0 ≤ n) : s_I (fun i => f i + g i) n = s_I f n + s_I g n := by
  refine i_ind (P := fun n => s_I (fun i => f i + g i) n = s_I f n + s_I g n) rfl ?_ n hn
  intro n hn ih
  rw [s_Is hn, s_Is hn, s_Is hn, ih]
  omega
theorem s_Iz {f : Int → Int} {n : Int} (hn : 0 ≤ n) (h : ∀ j, 0 ≤ j → j < n → f j = 0) : s_I f n = 0 := by
  rw [s_Ic (g := fun _ => 0) hn h]
  refine i_ind (P := fun n => s_I (fun _ => 0) n = 0) rfl ?_ n hn
  intro n hn ih
  rw [s_Is hn, ih]
  rfl
def nxN (p : Pl) (i out : Int) : Nat → Int → Int
  | 0, x => x
  | k + 1, x => if p 87 ≤ x then x else if p (88 + 5 * x + 0) = i ∧ x ≠ out then x else nxN p i out k (x + 1)
/-- the next job of a trolley from one on that isn't left out -/
def nx (p : Pl) (i out x : Int) : Int := nxN p i out (p 87 - x).toNat x
theorem nx_1 {p : Pl} {i out x : Int} (h : p 87 ≤ x) : nx p i out x = x := by
  unfold nx
  rw [show (p 87 - x).toNat = 0 by omega]
  rfl
theorem nx_2 {p : Pl} {i out x : Int} (h : x < p 87) (h2 : p (88 + 5 * x + 0) = i ∧ x ≠ out) : nx p i out x = x := by
  unfold nx
  rw [show (p 87 - x).toNat = (p 87 - (x + 1)).toNat + 1 by omega]
  unfold nxN
  rw [if_neg (by omega), if_pos h2]
theorem nx_3 {p : Pl} {i out x : Int} (h : x < p 87) (h2 : ¬ (p (88 + 5 * x + 0) = i ∧ x ≠ out)) : nx p i out x = nx p i out (x + 1) := by
  unfold nx
  rw [show (p 87 - x).toNat = (p 87 - (x + 1)).toNat + 1 by omega]
  show (if p 87 ≤ x then x else if p (88 + 5 * x + 0) = i ∧ x ≠ out then x else nxN p i out (p 87 - (x + 1)).toNat (x + 1)) = _
  rw [if_neg (by omega), if_neg h2]
theorem nx_sp {p : Pl} {i out : Int} : ∀ (k : Nat) (x : Int), (p 87 - x).toNat < k → x ≤ p 87 → x ≤ nx p i out x ∧ nx p i out x ≤ p 87 ∧ (nx p i out x < p 87 → p (88 + 5 * nx p i out x + 0) = i ∧ nx p i out x ≠ out) ∧ ∀ j, x ≤ j → j < nx p i out x → ¬ (p (88 + 5 * j + 0) = i ∧ j ≠ out) := by
  intro k
  induction k with
  | zero => intro x h; omega
  | succ k ih =>
    intro x hk hx
    by_cases h1 : p 87 ≤ x
    · rw [nx_1 h1]
      exact ⟨by omega, by omega, by omega, fun j h2 h3 => by omega⟩
    · by_cases h2 : p (88 + 5 * x + 0) = i ∧ x ≠ out
      · rw [nx_2 (by omega) h2]
        exact ⟨by omega, by omega, fun _ => h2, fun j h3 h4 => by omega⟩
      · rw [nx_3 (by omega) h2]
        obtain ⟨a, b, c, d⟩ := ih (x + 1) (by omega) (by omega)
        refine ⟨by omega, b, c, fun j h3 h4 => ?_⟩
        by_cases hj : j = x
        · rw [hj]; exact h2
        · exact d j (by omega) h4
theorem nx_s {p : Pl} {i out x : Int} (hx : x ≤ p 87) : x ≤ nx p i out x ∧ nx p i out x ≤ p 87 ∧ (nx p i out x < p 87 → p (88 + 5 * nx p i out x + 0) = i ∧ nx p i out x ≠ out) ∧ ∀ j, x ≤ j → j < nx p i out x → ¬ (p (88 + 5 * j + 0) = i ∧ j ≠ out) := nx_sp _ x (Nat.lt_succ_self _) hx
theorem nx_u {p : Pl} {i out x z : Int} (hx : x ≤ p 87) (h1 : x ≤ z) (h2 : z < p 87) (h3 : p (88 + 5 * z + 0) = i ∧ z ≠ out) (h4 : ∀ j, x ≤ j → j < z → ¬ (p (88 + 5 * j + 0) = i ∧ j ≠ out)) : nx p i out x = z := by
  obtain ⟨a, b, c, d⟩ := nx_s (p := p) (i := i) (out := out) hx
  by_cases e1 : nx p i out x < z
  · exact absurd (c (by omega)) (h4 _ a e1)
  · by_cases e2 : z < nx p i out x
    · exact absurd h3 (d z h1 e2)
    · omega
theorem nx_un {p : Pl} {i out x : Int} (hx : x ≤ p 87) (h4 : ∀ j, x ≤ j → j < p 87 → ¬ (p (88 + 5 * j + 0) = i ∧ j ≠ out)) : nx p i out x = p 87 := by
  obtain ⟨a, b, c, d⟩ := nx_s (p := p) (i := i) (out := out) hx
  by_cases e1 : nx p i out x < p 87
  · exact absurd (c e1) (h4 _ a e1)
  · omega
/-- who does something next -/
def fsN (n : Int) (S : Mem) : Nat → Int
  | 0 => -1
  | k + 1 => if S 187 (k : Int) < n ∧ (fsN n S k < 0 ∨ S 188 (k : Int) < S 188 (fsN n S k)) then (k : Int) else fsN n S k
theorem fsN_s {n : Int} {S : Mem} : ∀ k : Nat, (fsN n S k = -1 ∧ ∀ i : Int, 0 ≤ i → i < k → n ≤ S 187 i) ∨ (0 ≤ fsN n S k ∧ fsN n S k < k ∧ S 187 (fsN n S k) < n ∧ ∀ i : Int, 0 ≤ i → i < k → S 187 i < n → S 188 (fsN n S k) < S 188 i ∨ (S 188 (fsN n S k) = S 188 i ∧ fsN n S k ≤ i)) := by
  intro k
  induction k with
  | zero => exact Or.inl ⟨rfl, fun i h0 h1 => by omega⟩
  | succ k ih =>
    have e : ((k + 1 : Nat) : Int) = (k : Int) + 1 := by omega
    rw [e]
    by_cases hc : S 187 (k : Int) < n ∧ (fsN n S k < 0 ∨ S 188 (k : Int) < S 188 (fsN n S k))
    · have ef : fsN n S (k + 1) = (k : Int) := by
        show (if _ then _ else _) = _
        rw [if_pos hc]
      rw [ef]
      right
      refine ⟨by omega, by omega, hc.1, fun i h0 h1 h2 => ?_⟩
      by_cases hi : i = (k : Int)
      · subst hi; right; omega
      · rcases ih with ⟨a, b⟩ | ⟨a, b, c, d⟩
        · have := b i h0 (by omega); omega
        · have := d i h0 (by omega) h2
          omega
    · have ef : fsN n S (k + 1) = fsN n S k := by
        show (if _ then _ else _) = _
        rw [if_neg hc]
      rw [ef]
      rcases ih with ⟨a, b⟩ | ⟨a, b, c, d⟩
      · left
        refine ⟨a, fun i h0 h1 => ?_⟩
        by_cases hi : i = (k : Int)
        · subst hi; omega
        · exact b i h0 (by omega)
      · right
        refine ⟨a, by omega, c, fun i h0 h1 h2 => ?_⟩
        by_cases hi : i = (k : Int)
        · subst hi; omega
        · exact d i h0 (by omega) h2
def fst_ (p : Pl) (S : Mem) : Int := fsN (p 87) S 5
theorem fst_s {p : Pl} {S : Mem} : (fst_ p S = -1 ∧ ∀ i : Int, 0 ≤ i → i < 5 → p 87 ≤ S 187 i) ∨ (0 ≤ fst_ p S ∧ fst_ p S < 5 ∧ S 187 (fst_ p S) < p 87 ∧ ∀ i : Int, 0 ≤ i → i < 5 → S 187 i < p 87 → S 188 (fst_ p S) < S 188 i ∨ (S 188 (fst_ p S) = S 188 i ∧ fst_ p S ≤ i)) := fsN_s 5
/-- meals come back -/
def bbN (u : Int) : Nat → Mem → Mem
  | 0, S => S
  | k + 1, S => if bbN u k S 191 (k : Int) = 0 then bbN u k S else if bbN u k S 189 (k : Int) ≤ u then up2 (up2 (bbN u k S) 193 (bbN u k S 190 (k : Int)) (bbN u k S 193 (bbN u k S 190 (k : Int)) + bbN u k S 191 (k : Int))) 191 (k : Int) 0 else bbN u k S
def bb (u : Int) (S : Mem) : Mem := bbN u 5 S
def bkd (S : Mem) (u x : Int) : Int → Int := fun i => if S 190 i = x ∧ S 189 i ≤ u then S 191 i else 0
theorem bbN_s {u : Int} {S : Mem} : ∀ k : Nat, (∀ c, c ≠ 193 → c ≠ 191 → bbN u k S c = S c) ∧ (∀ i : Int, bbN u k S 191 i = if (0 ≤ i ∧ i < k) ∧ S 189 i ≤ u then 0 else S 191 i) ∧ ∀ x : Int, bbN u k S 193 x = S 193 x + s_I (bkd S u x) k := by
  intro k
  induction k with
  | zero =>
    refine ⟨fun _ _ _ => rfl, fun i => ?_, fun x => ?_⟩
    · rw [if_neg (by omega)]; rfl
    · show S 193 x = S 193 x + 0
      omega
  | succ k ih =>
    obtain ⟨a, b, c⟩ := ih
    have e : ((k + 1 : Nat) : Int) = (k : Int) + 1 := by omega
    have b1 : bbN u k S 191 (k : Int) = S 191 (k : Int) := by rw [b, if_neg (by omega)]
    have e9 : bbN u k S 189 = S 189 := a 189 (by omega) (by omega)
    have e0 : bbN u k S 190 = S 190 := a 190 (by omega) (by omega)
    have eS : bbN u (k + 1) S = if S 191 (k : Int) = 0 then bbN u k S else if S 189 (k : Int) ≤ u then up2 (up2 (bbN u k S) 193 (S 190 (k : Int)) (bbN u k S 193 (S 190 (k : Int)) + S 191 (k : Int))) 191 (k : Int) 0 else bbN u k S := by
      show (if _ then _ else _) = _
      rw [b1, e9, e0]
    have sm : ∀ x, s_I (bkd S u x) ((k + 1 : Nat) : Int) = s_I (bkd S u x) k + bkd S u x k := fun x => by rw [e, s_Is (by omega)]
    by_cases h0 : S 191 (k : Int) = 0
    · rw [eS, if_pos h0]
      refine ⟨a, fun i => ?_, fun x => ?_⟩
      · rw [b i]
        by_cases hi : i = (k : Int)
        · subst hi; rw [h0]; split <;> split <;> rfl
        · by_cases h3 : (0 ≤ i ∧ i < k) ∧ S 189 i ≤ u
          · rw [if_pos h3, if_pos (by omega)]
          · rw [if_neg h3, if_neg (by omega)]
      · rw [c x, sm]
        have : bkd S u x k = 0 := by unfold bkd; split <;> omega
        omega
    · by_cases h1 : S 189 (k : Int) ≤ u
      · rw [eS, if_neg h0, if_pos h1]
        refine ⟨fun d h2 h3 => ?_, fun i => ?_, fun x => ?_⟩
        · rw [up2_c h3, up2_c h2, a d h2 h3]
        · by_cases hi : i = (k : Int)
          · subst hi; rw [up2_s, if_pos (by omega)]
          · rw [up2_k hi, up2_c (by decide), b i]
            by_cases h3 : (0 ≤ i ∧ i < k) ∧ S 189 i ≤ u
            · rw [if_pos h3, if_pos (by omega)]
            · rw [if_neg h3, if_neg (by omega)]
        · rw [up2_c (by decide), sm]
          by_cases hx : x = S 190 (k : Int)
          · have : bkd S u x k = S 191 k := by unfold bkd; rw [if_pos ⟨hx.symm, h1⟩]
            rw [hx, up2_s, ← hx, c x]
            omega
          · have : bkd S u x k = 0 := by unfold bkd; rw [if_neg (fun h => hx h.1.symm)]
            rw [up2_k hx, c x]
            omega
      · rw [eS, if_neg h0, if_neg h1]
        refine ⟨a, fun i => ?_, fun x => ?_⟩
        · rw [b i]
          by_cases hi : i = (k : Int)
          · subst hi; rw [if_neg (by omega), if_neg (by omega)]
          · by_cases h3 : (0 ≤ i ∧ i < k) ∧ S 189 i ≤ u
            · rw [if_pos h3, if_pos (by omega)]
            · rw [if_neg h3, if_neg (by omega)]
        · rw [c x, sm]
          have : bkd S u x k = 0 := by unfold bkd; rw [if_neg (fun h => h1 h.2)]
          omega
theorem bb_c {u : Int} {S : Mem} {c : Nat} (h1 : c ≠ 193) (h2 : c ≠ 191) : bb u S c = S c := (bbN_s 5).1 c h1 h2
theorem bb_1 {u : Int} {S : Mem} {i : Int} : bb u S 191 i = if (0 ≤ i ∧ i < 5) ∧ S 189 i ≤ u then 0 else S 191 i := (bbN_s 5).2.1 i
theorem bb_3 {u : Int} {S : Mem} {x : Int} : bb u S 193 x = S 193 x + s_I (bkd S u x) 5 := (bbN_s 5).2.2 x
/-- a trolley starts a job -/
def sStarts (p : Pl) (out i : Int) (S : Mem) : Mem :=
  if min (S 193 (4 * p (62 + 5 * i + 0) + p (88 + 5 * S 187 i + 3))) (min (p (62 + 5 * i + 1)) (p (88 + 5 * S 187 i + 4))) = 0
  then up2 (up2 (up2 (up2 (up2 S 195 (S 187 i) (S 188 i)) 196 (S 187 i) (min (S 193 (4 * p (62 + 5 * i + 0) + p (88 + 5 * S 187 i + 3))) (min (p (62 + 5 * i + 1)) (p (88 + 5 * S 187 i + 4))))) 199 (S 187 i) 0) 200 (S 187 i) (S 188 i)) 187 i (nx p i out (S 187 i + 1))
  else up2 (up2 (up2 (up2 (up2 (up2 (up2 S 195 (S 187 i) (S 188 i)) 196 (S 187 i) (min (S 193 (4 * p (62 + 5 * i + 0) + p (88 + 5 * S 187 i + 3))) (min (p (62 + 5 * i + 1)) (p (88 + 5 * S 187 i + 4))))) 199 (S 187 i) 0)
    193 (4 * p (62 + 5 * i + 0) + p (88 + 5 * S 187 i + 3)) (S 193 (4 * p (62 + 5 * i + 0) + p (88 + 5 * S 187 i + 3)) - min (S 193 (4 * p (62 + 5 * i + 0) + p (88 + 5 * S 187 i + 3))) (min (p (62 + 5 * i + 1)) (p (88 + 5 * S 187 i + 4))))) 192 i 1)
    188 i (S 188 i + (min (S 193 (4 * p (62 + 5 * i + 0) + p (88 + 5 * S 187 i + 3))) (min (p (62 + 5 * i + 1)) (p (88 + 5 * S 187 i + 4))) * p (62 + 5 * i + 3) + wk p (S 187 i))))
    197 (S 187 i) (S 188 i + (min (S 193 (4 * p (62 + 5 * i + 0) + p (88 + 5 * S 187 i + 3))) (min (p (62 + 5 * i + 1)) (p (88 + 5 * S 187 i + 4))) * p (62 + 5 * i + 3) + wk p (S 187 i)))
/-- when unloading can begin, and how many meals -/
def sBeg (p : Pl) (i : Int) (S : Mem) : Int := max (S 188 i) (max (p (0 + p (88 + 5 * S 187 i + 1))) (S 194 (5 * p (88 + 5 * S 187 i + 1) + p (88 + 5 * S 187 i + 2))))
def sMany (p : Pl) (i : Int) (S : Mem) : Int := max 0 (min (S 196 (S 187 i)) (Int.tdiv (p (2 + p (88 + 5 * S 187 i + 1)) - sBeg p i S) (p (62 + 5 * i + 4))))
def sOver (p : Pl) (i : Int) (S : Mem) : Int := if sMany p i S ≤ 0 then S 188 i else sBeg p i S + sMany p i S * p (62 + 5 * i + 4)
def sDoor (p : Pl) (i : Int) (S : Mem) : Mem := if sMany p i S ≤ 0 then up2 (up2 S 198 (S 187 i) (sBeg p i S)) 199 (S 187 i) (sMany p i S) else up2 (up2 (up2 S 198 (S 187 i) (sBeg p i S)) 199 (S 187 i) (sMany p i S)) 194 (5 * p (88 + 5 * S 187 i + 1) + p (88 + 5 * S 187 i + 2)) (sOver p i S)
/-- how it goes on: from the time over -/
def sBk (p : Pl) (i j v : Int) (S : Mem) : Mem :=
  if S 200 j = S 188 i then up2 S 193 (4 * p (62 + 5 * i + 0) + p (88 + 5 * j + 3)) (S 193 (4 * p (62 + 5 * i + 0) + p (88 + 5 * j + 3)) + (S 196 j - v))
  else up2 (up2 (up2 S 189 i (S 200 j)) 190 i (4 * p (62 + 5 * i + 0) + p (88 + 5 * j + 3))) 191 i (S 196 j - v)
def sEnd (p : Pl) (out i j : Int) (S : Mem) : Mem := up2 (up2 (up2 S 192 i 0) 188 i (S 200 j)) 187 i (nx p i out (j + 1))
def sReach (p : Pl) (out i : Int) (S : Mem) : Mem := sEnd p out i (S 187 i) (sBk p i (S 187 i) (sMany p i S) (up2 (sDoor p i S) 200 (S 187 i) (sOver p i S + wk p (S 187 i))))
/-- one event -/
def sStep (p : Pl) (out : Int) (S : Mem) : Mem := if bb (S 188 (fst_ p S)) S 192 (fst_ p S) = 0 then sStarts p out (fst_ p S) (bb (S 188 (fst_ p S)) S) else sReach p out (fst_ p S) (bb (S 188 (fst_ p S)) S)
def sRun (p : Pl) (out : Int) : Nat → Mem → Mem
  | 0, S => S
  | k + 1, S => if fst_ p S < 0 then S else sRun p out k (sStep p out S)
def sIni (p : Pl) (wo out : Int) (J : Mem) : Mem := fun c b =>
  if c = 193 ∧ 0 ≤ b ∧ b < 12 then p (49 + b)
  else if c = 194 ∧ 0 ≤ b ∧ b < 10 then 0
  else if (c = 196 ∨ c = 199) ∧ 0 ≤ b ∧ b < 20 then 0
  else if c = 187 ∧ 0 ≤ b ∧ b < 5 then (if b < p 61 ∧ b ≠ wo then nx p b out 0 else p 87)
  else if (c = 188 ∨ c = 191 ∨ c = 192) ∧ 0 ≤ b ∧ b < 5 then 0
  else J c b
def sGo (p : Pl) (wo out : Int) (J : Mem) : Mem := bb 1000000 (sRun p out 300 (sIni p wo out J))
/-! ### what holds all along -/
def SV (p : Pl) (S : Mem) : Prop :=
  (∀ i : Int, 0 ≤ i → i < 5 → 0 ≤ S 187 i ∧ S 187 i ≤ p 87 ∧ 0 ≤ S 188 i ∧ S 188 i ≤ 1059 + 700 * S 187 i + 600 * S 192 i ∧ 0 ≤ S 192 i ∧ S 192 i ≤ 1 ∧ 0 ≤ S 191 i ∧ S 191 i ≤ 99 ∧ (S 191 i ≠ 0 → 0 ≤ S 190 i ∧ S 190 i < 12) ∧ (S 187 i < p 87 → i < p 61 ∧ p (88 + 5 * S 187 i + 0) = i) ∧ (S 192 i = 1 → S 187 i < p 87 ∧ 1 ≤ S 196 (S 187 i))) ∧
  (∀ k : Int, 0 ≤ k → k < 12 → 0 ≤ S 193 k ∧ S 193 k + s_I (S 191) 5 ≤ 999 + 99 * s_I (S 187) 5) ∧
  (∀ d : Int, 0 ≤ d → d < 10 → 0 ≤ S 194 d ∧ S 194 d ≤ 1059) ∧
  (∀ j : Int, 0 ≤ j → j < 20 → 0 ≤ S 199 j ∧ S 199 j ≤ 99 ∧ 0 ≤ S 196 j ∧ S 196 j ≤ 99)
def sMe (p : Pl) (S : Mem) : Int := s_I (fun i => 2 * (p 87 - S 187 i) - S 192 i) 5
