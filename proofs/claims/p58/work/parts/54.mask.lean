/-! ===== the reference's sums, its questions about waits and doors ===== -/
section MS
variable {ρ : Rf} {μ : Mem} {σ : Sg} {p : Pl}
theorem s_Ib2 {f : Int → Int} {n b : Int} (hn : 0 ≤ n) (h : ∀ j, 0 ≤ j → j < n → -b ≤ f j ∧ f j ≤ b) : -(n * b) ≤ s_I f n ∧ s_I f n ≤ n * b := by
  revert h
  refine i_ind (P := fun n => (∀ j, 0 ≤ j → j < n → -b ≤ f j ∧ f j ≤ b) → -(n * b) ≤ s_I f n ∧ s_I f n ≤ n * b) ?_ ?_ n hn
  · intro _
    rw [s_I0, Int.zero_mul]
    omega
  · intro n hn ih h
    have h1 := ih (fun j h1 h2 => h j h1 (by omega))
    have h2 := h n hn (by omega)
    rw [s_Is hn, Int.add_mul, Int.one_mul]
    omega
/-- a run's jobs are all through -/
theorem go_all {J : Mem} (hv : PV p) : PI p (sGo p (-1) (-1) J) ∧ ∀ i, 0 ≤ i → i < 5 → sGo p (-1) (-1) J 187 i = p 87 := by
  have a := PI_ini (J := J) hv
  have b := PI_run hv 300 _ a
  have c := sRun_e (out := -1) hv 300 _ a.1 (SV_ini hv).2
  refine ⟨PI_bb b, fun i i0 i1 => ?_⟩
  unfold sGo
  rw [bb_c (by decide) (by decide)]
  have d := c.1.1 i i0 i1
  rcases fst_s (p := p) (S := sRun p (-1) 300 (sIni p (-1) (-1) J)) with ⟨_, f⟩ | ⟨f, _⟩
  · have := f i i0 i1; omega
  · omega
theorem go_ro {J : Mem} (hv : PV p) : ∀ j, 0 ≤ j → j < p 87 → ROk p (sGo p (-1) (-1) J) j := fun j j0 j1 => by
  have n := hv.n
  have b := hv.j j0 j1
  obtain ⟨a, c⟩ := go_all (J := J) hv
  exact a.2.2.2.1 j j0 j1 (by rw [c _ b.1 (by omega)]; exact j1)
theorem go_ub {wo out : Int} {J : Mem} (hv : PV p) : UB p (sGo p wo out J 199) := fun j j0 j1 => by
  have n := hv.n
  have b := (SV_go (p := p) (wo := wo) (out := out) (J := J) hv).2.2.2 j j0 (by omega)
  omega

end MS
