theorem st_o {p : Pl} {out i : Int} {S : Mem} {c : Nat} (h : c < 187 ∨ 200 < c) : sStarts p out i S c = S c := by
  unfold sStarts
  split
  · rw [up2_c (by omega), up2_c (by omega), up2_c (by omega), up2_c (by omega), up2_c (by omega)]
  · rw [up2_c (by omega), up2_c (by omega), up2_c (by omega), up2_c (by omega), up2_c (by omega), up2_c (by omega), up2_c (by omega)]
theorem re_o {p : Pl} {out i : Int} {S : Mem} {c : Nat} (h : c < 187 ∨ 200 < c) : sReach p out i S c = S c := by
  unfold sReach sEnd
  rw [up2_c (by omega), up2_c (by omega), up2_c (by omega)]
  unfold sBk
  split
  · rw [up2_c (by omega), up2_c (by omega)]
    unfold sDoor
    split
    · rw [up2_c (by omega), up2_c (by omega)]
    · rw [up2_c (by omega), up2_c (by omega), up2_c (by omega)]
  · rw [up2_c (by omega), up2_c (by omega), up2_c (by omega), up2_c (by omega)]
    unfold sDoor
    split
    · rw [up2_c (by omega), up2_c (by omega)]
    · rw [up2_c (by omega), up2_c (by omega), up2_c (by omega)]
theorem step_o {p : Pl} {out : Int} {S : Mem} {c : Nat} (h : c < 187 ∨ 200 < c) : sStep p out S c = S c := by
  unfold sStep
  split
  · rw [st_o h, bb_c (by omega) (by omega)]
  · rw [re_o h, bb_c (by omega) (by omega)]
theorem sRun_o {p : Pl} {out : Int} {c : Nat} (h : c < 187 ∨ 200 < c) : ∀ (k : Nat) (S : Mem), sRun p out k S c = S c := by
  intro k
  induction k with
  | zero => intro S; rfl
  | succ k ih =>
    intro S
    have e : sRun p out (k + 1) S = if fst_ p S < 0 then S else sRun p out k (sStep p out S) := rfl
    rw [e]
    split
    · rfl
    · rw [ih, step_o h]
theorem ini_o {p : Pl} {wo out : Int} {J : Mem} {c : Nat} (h : c < 187 ∨ 200 < c) : sIni p wo out J c = J c := by
  funext b
  unfold sIni
  rw [if_neg (by omega), if_neg (by omega), if_neg (by omega), if_neg (by omega), if_neg (by omega)]
theorem sGo_o {p : Pl} {wo out : Int} {J : Mem} {c : Nat} (h : c < 187 ∨ 200 < c) : sGo p wo out J c = J c := by
  unfold sGo
  rw [bb_c (by omega) (by omega), sRun_o h, ini_o h]
/-- the memory as the run is made ready, step by step -/
def iA (p : Pl) (x : Int) (μ : Mem) : Mem := fun c b => if c = 193 ∧ 0 ≤ b ∧ b < x then p (49 + b) else μ c b
def iD (p : Pl) (wo out x : Int) (μ : Mem) : Mem := fun c b => if c = 187 ∧ 0 ≤ b ∧ b < x then (if b < p 61 ∧ b ≠ wo then nx p b out 0 else p 87) else if (c = 188 ∨ c = 191 ∨ c = 192) ∧ 0 ≤ b ∧ b < x then 0 else μ c b
theorem iA_1 {p : Pl} {x : Int} {μ : Mem} (h : 0 ≤ x) : up2 (iA p x μ) 193 x (p (49 + x)) = iA p (x + 1) μ := by
  funext c b
  unfold up2 iA
  by_cases hc : c = 193 ∧ b = x
  · rw [if_pos hc, if_pos (by omega), hc.2]
  · rw [if_neg hc]
    by_cases h2 : c = 193 ∧ 0 ≤ b ∧ b < x
    · rw [if_pos h2, if_pos (by omega)]
    · rw [if_neg h2, if_neg (by omega)]
theorem iD_1 {p : Pl} {wo out x z : Int} {μ : Mem} (h : 0 ≤ x) (hz : z = if x < p 61 ∧ x ≠ wo then nx p x out 0 else p 87) : up2 (up2 (up2 (up2 (iD p wo out x μ) 187 x z) 188 x 0) 191 x 0) 192 x 0 = iD p wo out (x + 1) μ := by
  funext c b
  by_cases hb : b = x
  · subst hb
    by_cases h1 : c = 187
    · subst h1
      rw [up2_c (by decide), up2_c (by decide), up2_c (by decide), up2_s, hz]
      unfold iD
      rw [if_pos (show (187 : Nat) = 187 ∧ 0 ≤ b ∧ b < b + 1 from ⟨rfl, h, by omega⟩)]
    · by_cases h2 : c = 188 ∨ c = 191 ∨ c = 192
      · have e : iD p wo out (b + 1) μ c b = 0 := by
          unfold iD
          rw [if_neg (fun q => h1 q.1), if_pos ⟨h2, h, by omega⟩]
        rw [e]
        rcases h2 with rfl | rfl | rfl
        · rw [up2_c (by decide), up2_c (by decide), up2_s]
        · rw [up2_c (by decide), up2_s]
        · rw [up2_s]
      · rw [up2_c (by omega), up2_c (by omega), up2_c (by omega), up2_c (by omega)]
        unfold iD
        rw [if_neg (by omega), if_neg (by omega), if_neg (by omega), if_neg (by omega)]
  · rw [up2_n (by omega), up2_n (by omega), up2_n (by omega), up2_n (by omega)]
    unfold iD
    by_cases h1 : c = 187 ∧ 0 ≤ b ∧ b < x
    · rw [if_pos h1, if_pos (show c = 187 ∧ 0 ≤ b ∧ b < x + 1 by omega)]
    · rw [if_neg h1, if_neg (show ¬ (c = 187 ∧ 0 ≤ b ∧ b < x + 1) by omega)]
      by_cases h2 : (c = 188 ∨ c = 191 ∨ c = 192) ∧ 0 ≤ b ∧ b < x
      · rw [if_pos h2, if_pos (by omega)]
      · rw [if_neg h2, if_neg (by omega)]
theorem iD_e {p : Pl} {wo out : Int} {μ : Mem} : iD p wo out 5 (filM (filM (filM (iA p 12 μ) 194 10 0) 196 20 0) 199 20 0) = sIni p wo out μ := by
  funext c b
  unfold iD filM iA sIni
  by_cases h1 : c = 187
  · subst h1; simp
  by_cases h2 : c = 188
  · subst h2; simp
  by_cases h3 : c = 191
  · subst h3; simp
  by_cases h4 : c = 192
  · subst h4; simp
  by_cases h5 : c = 193
  · subst h5; simp
  by_cases h6 : c = 194
  · subst h6; simp
  by_cases h7 : c = 196
  · subst h7; simp
  by_cases h8 : c = 199
  · subst h8; simp
  simp [h1, h2, h3, h4, h5, h6, h7, h8]
theorem fil2_1 {μ : Mem} {n : Int} (h : 0 ≤ n) : up2 (up2 (filM (filM μ 196 n 0) 199 n 0) 196 n 0) 199 n 0 = filM (filM μ 196 (n + 1) 0) 199 (n + 1) 0 := by
  rw [← filM_1 h, ← filM_1 (a := 196) h]
  funext c b
  unfold up2 filM
  by_cases hc : c = 199
  · subst hc; simp
  · by_cases h6 : c = 196
    · subst h6; simp
    · simp [hc, h6]
