/-! ===== parsing: what is read, by tokens ===== -/
/-- an error's code (0: none) and place, the start of the last token, the place behind it -/
abbrev Tk : Type := Int × Int × Int × Int
def fR (k : Int) (T : Tk) : Tk := if T.1 = 0 then (k, T.2.2.1, T.2.2.1, T.2.2.2) else T
section PSP
variable (b : Int → Int) (n : Int)
def fTk (T : Tk) : Tk := if T.1 = 0 then (0, T.2.1, tS b n T.2.2.2, tN b n T.2.2.2) else T
def fNu (lo hi : Int) (T : Tk) : Tk := if T.1 = 0 then (if tK b n T.2.2.2 = 2 then (if lo ≤ tV b n T.2.2.2 ∧ tV b n T.2.2.2 ≤ hi then fTk b n T else fR 2 (fTk b n T)) else fR 1 (fTk b n T)) else T
def vNu (lo hi : Int) (T : Tk) : Int := if (fNu b n lo hi T).1 = 0 then tV b n T.2.2.2 else lo
def fKw (k : Int) (T : Tk) : Tk := if T.1 = 0 then (if tK b n T.2.2.2 = 1 ∧ kwI (tW b n T.2.2.2) = k then fTk b n T else fR 1 (fTk b n T)) else T
end PSP
def fndF (f : Int → Int) (w : Int) : Nat → Int → Int
  | 0, _ => -1
  | m + 1, k => if f k = w then k else fndF f w m (k + 1)
/-- the first place below c that holds w, or -1 -/
def fnd (f : Int → Int) (c w : Int) : Int := fndF f w c.toNat 0
theorem fndF_b {f : Int → Int} {w : Int} : ∀ (m : Nat) (k : Int), 0 ≤ k → fndF f w m k = -1 ∨ (k ≤ fndF f w m k ∧ fndF f w m k < k + m ∧ f (fndF f w m k) = w) := by
  intro m
  induction m with
  | zero => intro k _; exact Or.inl rfl
  | succ m ih =>
    intro k k0
    have e : fndF f w (m + 1) k = if f k = w then k else fndF f w m (k + 1) := rfl
    by_cases c : f k = w
    · rw [e, if_pos c]; exact Or.inr ⟨Int.le_refl _, by omega, c⟩
    · rw [e, if_neg c]
      rcases ih (k + 1) (by omega) with h | h
      · exact Or.inl h
      · exact Or.inr ⟨by omega, by omega, h.2.2⟩
theorem fnd_b {f : Int → Int} {c w : Int} (hc : 0 ≤ c) : fnd f c w = -1 ∨ (0 ≤ fnd f c w ∧ fnd f c w < c ∧ f (fnd f c w) = w) := by
  have := fndF_b (f := f) (w := w) c.toNat 0 (by omega)
  rcases this with h | h
  · exact Or.inl h
  · exact Or.inr ⟨h.1, by have := h.2.1; unfold fnd; omega, h.2.2⟩
theorem fndF_c {f g : Int → Int} {w v : Int} : ∀ (m : Nat) (k : Int), (∀ j, k ≤ j → j < k + m → (f j = w ↔ g j = v)) → fndF f w m k = fndF g v m k := by
  intro m
  induction m with
  | zero => intro k _; rfl
  | succ m ih =>
    intro k h
    have e : fndF f w (m + 1) k = if f k = w then k else fndF f w m (k + 1) := rfl
    have e2 : fndF g v (m + 1) k = if g k = v then k else fndF g v m (k + 1) := rfl
    have c := h k (by omega) (by omega)
    rw [e, e2, ih (k + 1) (fun j j0 j1 => h j (by omega) (by omega))]
    by_cases x : f k = w
    · rw [if_pos x, if_pos (c.mp x)]
    · rw [if_neg x, if_neg (fun y => x (c.mpr y))]
theorem fnd_c {f g : Int → Int} {c w v : Int} (h : ∀ j, 0 ≤ j → j < c → (f j = w ↔ g j = v)) : fnd f c w = fnd g c v := fndF_c c.toNat 0 (fun j j0 j1 => h j j0 (by omega))
section PSQ
variable (b : Int → Int) (n : Int)
/-- the draft: 1 the plan, 2 and 3 the meals' names in both numberings, 4 the trains told, 5 the stocks told -/
def fUt (D : Sg) (t : Int) (T : Tk) : Tk := if D 4 t = 0 then fR 2 T else T
def fMl (D : Sg) (T : Tk) : Tk := if fnd (D 2) (D 1 36) (tW b n T.2.2.2) < 0 then fR 2 (fKw b n (-1) T) else fKw b n (-1) T
def vMl (D : Sg) (T : Tk) : Int := max 0 (fnd (D 2) (D 1 36) (tW b n T.2.2.2))
/-- train -/
def tr2 (D : Sg) (T : Tk) : Tk := if D 4 (vNu b n 0 1 T) = 0 then fNu b n 0 1 T else fR 3 (fNu b n 0 1 T)
def tr4 (D : Sg) (T : Tk) : Tk := fNu b n 0 900 (fKw b n 7 (tr2 b n D T))
def trA (D : Sg) (T : Tk) : Int := vNu b n 0 900 (fKw b n 7 (tr2 b n D T))
def tr6 (D : Sg) (T : Tk) : Tk := fNu b n (trA b n D T) 999 (fKw b n 8 (tr4 b n D T))
def trD (D : Sg) (T : Tk) : Int := vNu b n (trA b n D T) 999 (fKw b n 8 (tr4 b n D T))
def trX (D : Sg) (t a d : Int) : Sg := fun c k => if c = 1 then u1 (u1 (D 1) (0 + t) a) (2 + t) d k else if c = 4 then u1 (D 4) t 1 k else D c k
def trS (D : Sg) (T : Tk) : Sg := if (tr6 b n D T).1 = 0 then trX D (vNu b n 0 1 T) (trA b n D T) (trD b n D T) else D
/-- car -/
def ca2 (D : Sg) (T : Tk) : Tk := fUt D (vNu b n 0 1 T) (fNu b n 0 1 T)
def ca3 (D : Sg) (T : Tk) : Tk := if D 1 (4 + vNu b n 0 1 T) < 5 then ca2 b n D T else fR 4 (ca2 b n D T)
def ca4 (D : Sg) (T : Tk) : Tk := fNu b n 0 99 (ca3 b n D T)
def ca5 (D : Sg) (T : Tk) : Tk := fNu b n 0 99 (ca4 b n D T)
def ca6 (D : Sg) (T : Tk) : Tk := fNu b n 0 99 (ca5 b n D T)
def caX (D : Sg) (t p q r : Int) : Sg := fun c k => if c = 1 then u1 (u1 (u1 (u1 (D 1) (6 + (5 * t + D 1 (4 + t))) p) (16 + (5 * t + D 1 (4 + t))) q) (26 + (5 * t + D 1 (4 + t))) r) (4 + t) (D 1 (4 + t) + 1) k else D c k
def caS (D : Sg) (T : Tk) : Sg := if (ca6 b n D T).1 = 0 then caX D (vNu b n 0 1 T) (vNu b n 0 99 (ca3 b n D T)) (vNu b n 0 99 (ca4 b n D T)) (vNu b n 0 99 (ca5 b n D T)) else D
/-- meal -/
def me1 (D : Sg) (T : Tk) : Tk := if D 1 36 < 4 then T else fR 4 T
def me2 (D : Sg) (T : Tk) : Tk := fKw b n (-1) (me1 D T)
def me3 (D : Sg) (T : Tk) : Tk := if fnd (D 2) (D 1 36) (tW b n T.2.2.2) < 0 then me2 b n D T else fR 3 (me2 b n D T)
def me4 (D : Sg) (T : Tk) : Tk := fNu b n 0 20 (me3 b n D T)
def me5 (D : Sg) (T : Tk) : Tk := fNu b n 0 20 (me4 b n D T)
def meX (D : Sg) (w x p q : Int) : Sg := fun c k => if c = 1 then u1 (u1 (u1 (D 1) (37 + D 1 36) p) (41 + D 1 36) q) 36 (D 1 36 + 1) k else if c = 2 then u1 (D 2) (D 1 36) w k else if c = 3 then u1 (D 3) (D 1 36) x k else D c k
def meS (D : Sg) (T : Tk) : Sg := if (me5 b n D T).1 = 0 then meX D (tW b n T.2.2.2) (tX b n T.2.2.2) (vNu b n 0 20 (me3 b n D T)) (vNu b n 0 20 (me4 b n D T)) else D
/-- kitchen -/
def ki1 (D : Sg) (T : Tk) : Tk := if D 1 45 < 3 then T else fR 4 T
def ki2 (D : Sg) (T : Tk) : Tk := fNu b n 0 99 (ki1 D T)
def kiX (D : Sg) (p : Int) : Sg := fun c k => if c = 1 then u1 (u1 (D 1) (46 + D 1 45) p) 45 (D 1 45 + 1) k else D c k
def kiS (D : Sg) (T : Tk) : Sg := if (ki2 b n D T).1 = 0 then kiX D (vNu b n 0 99 (ki1 D T)) else D
/-- stock -/
def st1 (D : Sg) (T : Tk) : Tk := fNu b n 0 (D 1 45 - 1) T
def st2 (D : Sg) (T : Tk) : Tk := fMl b n D (st1 b n D T)
def stI (D : Sg) (T : Tk) : Int := 4 * vNu b n 0 (D 1 45 - 1) T + vMl b n D (st1 b n D T)
def st3 (D : Sg) (T : Tk) : Tk := if D 5 (stI b n D T) = 0 then st2 b n D T else fR 3 (st2 b n D T)
def st4 (D : Sg) (T : Tk) : Tk := fNu b n 0 999 (st3 b n D T)
def stX (D : Sg) (i q : Int) : Sg := fun c k => if c = 1 then u1 (D 1) (49 + i) q k else if c = 5 then u1 (D 5) i 1 k else D c k
def stS (D : Sg) (T : Tk) : Sg := if (st4 b n D T).1 = 0 then stX D (stI b n D T) (vNu b n 0 999 (st3 b n D T)) else D
/-- trolley -/
def ty1 (D : Sg) (T : Tk) : Tk := if D 1 61 < 5 then T else fR 4 T
def ty2 (D : Sg) (T : Tk) : Tk := fNu b n 0 (D 1 45 - 1) (ty1 D T)
def ty3 (D : Sg) (T : Tk) : Tk := fNu b n 1 99 (ty2 b n D T)
def ty4 (D : Sg) (T : Tk) : Tk := fNu b n 1 9 (ty3 b n D T)
def ty5 (D : Sg) (T : Tk) : Tk := fNu b n 1 5 (ty4 b n D T)
def ty6 (D : Sg) (T : Tk) : Tk := fNu b n 1 5 (ty5 b n D T)
def tyX (D : Sg) (k0 c0 v0 l0 w0 : Int) : Sg := fun c k => if c = 1 then u1 (u1 (u1 (u1 (u1 (u1 (D 1) (62 + 5 * D 1 61 + 0) k0) (62 + 5 * D 1 61 + 1) c0) (62 + 5 * D 1 61 + 2) v0) (62 + 5 * D 1 61 + 3) l0) (62 + 5 * D 1 61 + 4) w0) 61 (D 1 61 + 1) k else D c k
def tyS (D : Sg) (T : Tk) : Sg := if (ty6 b n D T).1 = 0 then tyX D (vNu b n 0 (D 1 45 - 1) (ty1 D T)) (vNu b n 1 99 (ty2 b n D T)) (vNu b n 1 9 (ty3 b n D T)) (vNu b n 1 5 (ty4 b n D T)) (vNu b n 1 5 (ty5 b n D T)) else D
/-- job -/
def jo1 (D : Sg) (T : Tk) : Tk := if D 1 87 < 20 then T else fR 4 T
def jo2 (D : Sg) (T : Tk) : Tk := fNu b n 0 (D 1 61 - 1) (jo1 D T)
def joI (D : Sg) (T : Tk) : Int := vNu b n 0 (D 1 61 - 1) (jo1 D T)
def jo3 (D : Sg) (T : Tk) : Tk := if cnt (D 1) (joI b n D T) < 8 then jo2 b n D T else fR 4 (jo2 b n D T)
def joT (D : Sg) (T : Tk) : Int := vNu b n 0 1 (jo3 b n D T)
def jo4 (D : Sg) (T : Tk) : Tk := fUt D (joT b n D T) (fNu b n 0 1 (jo3 b n D T))
def jo5 (D : Sg) (T : Tk) : Tk := fNu b n 0 (D 1 (4 + joT b n D T) - 1) (jo4 b n D T)
def joC (D : Sg) (T : Tk) : Int := vNu b n 0 (D 1 (4 + joT b n D T) - 1) (jo4 b n D T)
def jo6 (D : Sg) (T : Tk) : Tk := fMl b n D (jo5 b n D T)
def joM (D : Sg) (T : Tk) : Int := vMl b n D (jo5 b n D T)
def jo7 (D : Sg) (T : Tk) : Tk := fNu b n 1 99 (jo6 b n D T)
def joX (D : Sg) (i t c0 m q : Int) : Sg := fun c k => if c = 1 then pAdd (D 1) i t c0 m q k else D c k
def joS (D : Sg) (T : Tk) : Sg := if (jo7 b n D T).1 = 0 then joX D (joI b n D T) (joT b n D T) (joC b n D T) (joM b n D T) (vNu b n 1 99 (jo6 b n D T)) else D
/-- a line: its keyword, and what stands behind -/
def rdT (D : Sg) (T : Tk) : Tk := if tK b n T.2.2.2 = 1 then (if kwI (tW b n T.2.2.2) = 0 then tr6 b n D (fTk b n T) else if kwI (tW b n T.2.2.2) = 1 then ca6 b n D (fTk b n T) else if kwI (tW b n T.2.2.2) = 2 then me5 b n D (fTk b n T) else if kwI (tW b n T.2.2.2) = 3 then ki2 b n D (fTk b n T) else if kwI (tW b n T.2.2.2) = 4 then st4 b n D (fTk b n T) else if kwI (tW b n T.2.2.2) = 5 then ty6 b n D (fTk b n T) else if kwI (tW b n T.2.2.2) = 6 then jo7 b n D (fTk b n T) else fR 1 (fTk b n T)) else fR 1 (fTk b n T)
def rdS (D : Sg) (T : Tk) : Sg := if tK b n T.2.2.2 = 1 then (if kwI (tW b n T.2.2.2) = 0 then trS b n D (fTk b n T) else if kwI (tW b n T.2.2.2) = 1 then caS b n D (fTk b n T) else if kwI (tW b n T.2.2.2) = 2 then meS b n D (fTk b n T) else if kwI (tW b n T.2.2.2) = 3 then kiS b n D (fTk b n T) else if kwI (tW b n T.2.2.2) = 4 then stS b n D (fTk b n T) else if kwI (tW b n T.2.2.2) = 5 then tyS b n D (fTk b n T) else if kwI (tW b n T.2.2.2) = 6 then joS b n D (fTk b n T) else D) else D
end PSQ
section PSL
variable {b : Int → Int} {n lo hi k : Int} {T : Tk} {D : Sg}
/-- within the text, without an error or with one -/
def TOK (n : Int) (T : Tk) : Prop := 0 ≤ T.2.2.2 ∧ T.2.2.2 ≤ n ∧ 0 ≤ T.1
theorem fR_c (h : T.1 ≠ 0) : fR k T = T := by unfold fR; rw [if_neg h]
theorem fR_o (h : T.1 = 0) : fR k T = (k, T.2.2.1, T.2.2.1, T.2.2.2) := by unfold fR; rw [if_pos h]
theorem fTk_c (h : T.1 ≠ 0) : fTk b n T = T := by unfold fTk; rw [if_neg h]
theorem fTk_o (h : T.1 = 0) : fTk b n T = (0, T.2.1, tS b n T.2.2.2, tN b n T.2.2.2) := by unfold fTk; rw [if_pos h]
theorem fTk_1 : (fTk b n T).1 = T.1 := by
  unfold fTk
  split
  · rename_i h; rw [h]
  · rfl
theorem fNu_c (h : T.1 ≠ 0) : fNu b n lo hi T = T := by unfold fNu; rw [if_neg h]
theorem fKw_c (h : T.1 ≠ 0) : fKw b n k T = T := by unfold fKw; rw [if_neg h]
theorem vNu_c (h : T.1 ≠ 0) : vNu b n lo hi T = lo := by unfold vNu; rw [fNu_c h, if_neg h]
theorem fUt_c {t : Int} (h : T.1 ≠ 0) : fUt D t T = T := by unfold fUt; rw [fR_c h]; split <;> rfl
theorem fMl_c (h : T.1 ≠ 0) : fMl b n D T = T := by unfold fMl; rw [fKw_c h, fR_c h]; split <;> rfl
theorem fR_k (hk : k ≠ 0) : (fR k T).1 ≠ 0 := by
  unfold fR
  by_cases c : T.1 = 0
  · rw [if_pos c]; exact hk
  · rw [if_neg c]; exact c
theorem fR_t (hk : 0 ≤ k) (h : TOK n T) : TOK n (fR k T) := by
  unfold fR
  split
  · exact ⟨h.1, h.2.1, hk⟩
  · exact h
theorem fTk_t (h : TOK n T) : TOK n (fTk b n T) := by
  unfold fTk
  split
  · have := tok_b (b := b) h.2.1
    have h0 := h.1
    exact ⟨by show 0 ≤ tN b n T.2.2.2; omega, this.2.1, Int.le_refl _⟩
  · exact h
theorem fNu_t (h : TOK n T) : TOK n (fNu b n lo hi T) := by
  unfold fNu
  split
  · split
    · split
      · exact fTk_t h
      · exact fR_t (by decide) (fTk_t h)
    · exact fR_t (by decide) (fTk_t h)
  · exact h
theorem fKw_t (h : TOK n T) : TOK n (fKw b n k T) := by
  unfold fKw
  split
  · split
    · exact fTk_t h
    · exact fR_t (by decide) (fTk_t h)
  · exact h
theorem fUt_t {t : Int} (h : TOK n T) : TOK n (fUt D t T) := by
  unfold fUt
  split
  · exact fR_t (by decide) h
  · exact h
theorem fMl_t (h : TOK n T) : TOK n (fMl b n D T) := by
  unfold fMl
  split
  · exact fR_t (by decide) (fKw_t h)
  · exact fKw_t h
/-- a number that was taken -/
theorem fNu_0 (h : (fNu b n lo hi T).1 = 0) : T.1 = 0 ∧ tK b n T.2.2.2 = 2 ∧ lo ≤ tV b n T.2.2.2 ∧ tV b n T.2.2.2 ≤ hi ∧ fNu b n lo hi T = fTk b n T := by
  by_cases c : T.1 = 0
  · unfold fNu at h ⊢
    rw [if_pos c] at h ⊢
    by_cases c1 : tK b n T.2.2.2 = 2
    · rw [if_pos c1] at h ⊢
      by_cases c2 : lo ≤ tV b n T.2.2.2 ∧ tV b n T.2.2.2 ≤ hi
      · rw [if_pos c2]; exact ⟨c, c1, c2.1, c2.2, rfl⟩
      · rw [if_neg c2] at h; exact absurd h (fR_k (by decide))
    · rw [if_neg c1] at h; exact absurd h (fR_k (by decide))
  · rw [fNu_c c] at h; exact absurd h c
theorem vNu_b (h : (fNu b n lo hi T).1 = 0) : lo ≤ vNu b n lo hi T ∧ vNu b n lo hi T ≤ hi ∧ vNu b n lo hi T = tV b n T.2.2.2 := by
  have a := fNu_0 h
  have e : vNu b n lo hi T = tV b n T.2.2.2 := by unfold vNu; rw [if_pos h]
  rw [e]
  exact ⟨a.2.2.1, a.2.2.2.1, rfl⟩
theorem vNu_r (hh : lo ≤ hi) : lo ≤ vNu b n lo hi T ∧ vNu b n lo hi T ≤ hi := by
  by_cases h : (fNu b n lo hi T).1 = 0
  · exact ⟨(vNu_b h).1, (vNu_b h).2.1⟩
  · unfold vNu; rw [if_neg h]; omega
theorem fKw_0 (h : (fKw b n k T).1 = 0) : T.1 = 0 ∧ tK b n T.2.2.2 = 1 ∧ kwI (tW b n T.2.2.2) = k ∧ fKw b n k T = fTk b n T := by
  by_cases c : T.1 = 0
  · unfold fKw at h ⊢
    rw [if_pos c] at h ⊢
    by_cases c1 : tK b n T.2.2.2 = 1 ∧ kwI (tW b n T.2.2.2) = k
    · rw [if_pos c1]; exact ⟨c, c1.1, c1.2, rfl⟩
    · rw [if_neg c1] at h; exact absurd h (fR_k (by decide))
  · rw [fKw_c c] at h; exact absurd h c
theorem fUt_0 {t : Int} (h : (fUt D t T).1 = 0) : T.1 = 0 ∧ D 4 t ≠ 0 ∧ fUt D t T = T := by
  unfold fUt at h ⊢
  by_cases c : D 4 t = 0
  · rw [if_pos c] at h; exact absurd h (fR_k (by decide))
  · rw [if_neg c] at h ⊢; exact ⟨h, c, rfl⟩
theorem fMl_0 (h : (fMl b n D T).1 = 0) : T.1 = 0 ∧ tK b n T.2.2.2 = 1 ∧ 0 ≤ fnd (D 2) (D 1 36) (tW b n T.2.2.2) ∧ fMl b n D T = fTk b n T := by
  unfold fMl at h ⊢
  by_cases c : fnd (D 2) (D 1 36) (tW b n T.2.2.2) < 0
  · rw [if_pos c] at h; exact absurd h (fR_k (by decide))
  · rw [if_neg c] at h ⊢
    have := fKw_0 h
    exact ⟨this.1, this.2.1, by omega, this.2.2.2⟩
end PSL
