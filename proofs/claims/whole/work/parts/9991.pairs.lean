/-! ===== class and reference answer alike: the calls that change ===== -/
section PRS
variable {σ : Sg}
theorem SI.okp (h : SI σ) (hp : σ 0 4 = 1) : OKP (σ 2) := (h.2.2.2.2.2.2.2.2 hp).1
theorem pr_append {a b c d e : Int} : PAIR mX7_append mX8_append [qI a, qI b, qI c, qI d, qI e] := fun σ hS => ⟨_, _, fun _ _ h => c_append h hS, fun _ _ h => q_append h hS, hS.ap⟩
theorem pr_load {x : Int} : PAIR mX7_load mX8_load [qI x] := fun σ hS => ⟨_, _, fun _ _ h => c_load h hS, fun _ _ h => q_load h hS, by
  by_cases ci : 0 ≤ x ∧ x ≤ σ 0 0
  · rw [if_pos ci]
    by_cases t0 : (pT (σ 1) x).1 = 0
    · rw [if_pos t0]
      exact hS.lo ((pZ_v ci.1).ok (pT_0 t0))
    · rw [if_neg t0]
      exact hS.lf
  · rw [if_neg ci]
    exact hS.e⟩
theorem pr_setDeparture {t v : Int} : PAIR mX7_setDeparture mX8_setDeparture [qI t, qI v] := fun σ hS => ⟨_, _, fun _ _ h => c_setDeparture h hS, fun _ _ h => q_setDeparture h hS, by
  split
  · rename_i c
    have ok := hS.okp c.1.1
    have ht : 0 ≤ t ∧ t < 2 := by omega
    exact hS.ch c.1.1 (u1_OKP ok (by omega) (by omega) (fun j j0 j1 => by omega) (fun _ => c.2.2) (dep_PV ok.1 ht c.2.1 (by omega))) (dep_FEq ht)
  · exact hS.e⟩
theorem pr_setStock {k m v : Int} : PAIR mX7_setStock mX8_setStock [qI k, qI m, qI v] := fun σ hS => ⟨_, _, fun _ _ h => c_setStock h hS, fun _ _ h => q_setStock h hS, by
  split
  · rename_i c
    have ok := hS.okp (by omega)
    have n := ok.1.n
    have hk : 0 ≤ 4 * k + m ∧ 4 * k + m < 12 := by omega
    exact hS.ch (by omega) (u1_OKP ok (by omega) (by omega) (fun j j0 j1 => by omega) (fun h => by omega) (stk_PV ok.1 hk (by omega))) (stk_FEq hk)
  · exact hS.e⟩
theorem pr_setQuantity {j v : Int} : PAIR mX7_setQuantity mX8_setQuantity [qI j, qI v] := fun σ hS => ⟨_, _, fun _ _ h => c_setQuantity h hS, fun _ _ h => q_setQuantity h hS, by
  split
  · rename_i c
    have ok := hS.okp (by omega)
    have n := ok.1.n
    exact hS.ch (by omega) (u1_OKP ok (by omega) (by omega) (fun x j0 j1 => by omega) (fun h => by omega) (qty_PV ok.1 (by omega) (by omega))) (qty_FEq (by omega))
  · exact hS.e⟩
theorem pr_removeJob {j : Int} : PAIR mX7_removeJob mX8_removeJob [qI j] := fun σ hS => ⟨_, _, fun _ _ h => c_removeJob h hS, fun _ _ h => q_removeJob h hS, by
  split
  · rename_i c
    exact hS.ch (by omega) (drop_OKP (hS.okp (by omega)) (by omega)) (drop_FEq (by omega))
  · exact hS.e⟩
theorem pr_addJob {i t c m v : Int} : PAIR mX7_addJob mX8_addJob [qI i, qI t, qI c, qI m, qI v] := fun σ hS => ⟨_, _, fun _ _ h => c_addJob h hS, fun _ _ h => q_addJob h hS, by
  split
  · rename_i k
    exact hS.ch (by omega) (add_OKP (hS.okp (by omega)) (by omega) (by omega) (by omega) (by omega) (by omega) (by omega) (by omega)) (add_FEq (hS.okp (by omega)).1.n.2.2.2.2.2.2.1)
  · exact hS.e⟩
theorem pr_moveJob {j to : Int} : PAIR mX7_moveJob mX8_moveJob [qI j, qI to] := fun σ hS => ⟨_, _, fun _ _ h => c_moveJob h hS, fun _ _ h => q_moveJob h hS, by
  split
  · rename_i c
    have := mv_ok (hS.okp c.1) (j := j) (to := to) (by omega) (by omega)
    exact hS.ch c.1 this.1 this.2
  · exact hS.e⟩
theorem pr_applyBest {i : Int} : PAIR mX7_applyBest mX8_applyBest [qI i] := fun σ hS => ⟨_, _, fun _ _ h => c_applyBest h hS, fun _ _ h => q_applyBest h hS, by
  split
  · rename_i c
    have := apB_ok (hS.okp c.1) (i := i) c.2.1 c.2.2
    exact hS.ch c.1 this.1 this.2
  · exact hS.e⟩
theorem pr_undo : PAIR mX7_undo mX8_undo [] := fun σ hS => ⟨_, _, fun _ _ h => c_undo h hS, fun _ _ h => q_undo h hS, by
  split
  · rename_i c
    exact hS.un c.1 c.2
  · exact hS.e⟩
theorem pr_save : PAIR mX7_save mX8_save [] := fun σ hS => ⟨_, _, fun _ _ h => c_save h hS, fun _ _ h => q_save h hS, by
  split
  · rename_i c
    exact hS.sv c
  · exact hS.e⟩
theorem pr_restore : PAIR mX7_restore mX8_restore [] := fun σ hS => ⟨_, _, fun _ _ h => c_restore h hS, fun _ _ h => q_restore h hS, by
  split
  · rename_i c
    exact hS.re c.1 c.2
  · exact hS.e⟩
end PRS
