/-! ===== a contract over the class's cells holds with the law's rows beside them ===== -/
def cR (ρ : Rf) : Rf := fun o k => if o < 178 then ρ o k else nid
def cM (μ : Mem) : Mem := fun o k => if o < 178 then μ o k else 0
theorem cR_lt {ρ : Rf} {o : Nat} (h : o < 178) : cR ρ o = ρ o := by
  funext k
  exact if_pos h
theorem cM_lt {μ : Mem} {o : Nat} (h : o < 178) : cM μ o = μ o := by
  funext k
  exact if_pos h
def glR (f g : Rf) : Rf := fun o => if o < 178 then f o else g o
def glM (f g : Mem) : Mem := fun o => if o < 178 then f o else g o
theorem Met.conseq {l : Launch} {y : MethodName} {ws : List Cond} {rm : Room} {Pc Pc' : Array Value → State → Prop} {Qc Qc' : Array Value → State → Outcome → State → Prop} {mc ms : Nat} {fr fr' : Addr → Prop} (h : Met l y ws rm Pc Qc mc ms fr) (hp : ∀ a s, Pc' a s → Pc a s) (hq : ∀ a s o t, Pc' a s → Qc a s o t → Qc' a s o t) (hf : ∀ q, fr q → fr' q) : Met l y ws rm Pc' Qc' mc ms fr' := by
  intro p e ha hc hk s m args below hf1 happ hP hK
  obtain ⟨k, o, h1, h2, h3, hQ, L, h4, h5⟩ := h p e ha hc hk s m args below hf1 happ (hp _ _ hP) hK
  exact ⟨k, o, h1, h2, h3, hq _ _ _ _ hP hQ, L, h4, fun q hq => hf _ (h5 q hq)⟩
theorem QcX_conv {k n n' : Nat} {φ : Nat → Nat} {G G' : Gx} {Post Post' : Int → Rf → Mem → Prop} {D : va_G} {cA : Nat → ClassId} {A A' : Nat → Prop} (hk : k ≠ 4) {a : Array Value} {st : State} {oc : Outcome} {t : State} (hA : ∀ q, A q → A' q) (hu : ∀ u, QPst k n φ G Post u → QBst D cA G A u t → va_F A st t → ∃ u', u'.2.2.2 = u.2.2.2 ∧ QPst k n' φ G' Post' u' ∧ QBst D cA G' A' u' t) (h : QcX k n φ G Post D cA A a st oc t) : QcX k n' φ G' Post' D cA A' a st oc t := by
  have hF' : va_F A st t → va_F A' st t := fun hF => ⟨hF.1, fun q h1 h2 => hF.2 q h1 (fun z => h2 (hA q z))⟩
  match k, hk, hu, h with
  | 0, _, hu, h =>
    obtain ⟨⟨u, h1, h2, h3⟩, hF⟩ := h
    obtain ⟨u', e, p, b⟩ := hu u h2 h3 hF
    exact ⟨⟨u', h1, p, b⟩, hF' hF⟩
  | 1, _, hu, h =>
    obtain ⟨⟨r, u, h1, h2, h3⟩, hF⟩ := h
    obtain ⟨u', e, p, b⟩ := hu u h2.2 h3 hF
    exact ⟨⟨r, u', h1, ⟨by rw [e]; exact h2.1, p⟩, b⟩, hF' hF⟩
  | 2, _, hu, h =>
    obtain ⟨⟨r, u, h1, h2, h3⟩, hF⟩ := h
    obtain ⟨u', e, p, b⟩ := hu u h2.2 h3 hF
    exact ⟨⟨r, u', h1, ⟨by rw [e]; exact h2.1, p⟩, b⟩, hF' hF⟩
  | 3, _, hu, h =>
    obtain ⟨⟨r, u, h1, h2, h3⟩, hF⟩ := h
    obtain ⟨u', e, p, b⟩ := hu u h2.2 h3 hF
    exact ⟨⟨r, u', h1, ⟨by rw [e]; exact h2.1, p⟩, b⟩, hF' hF⟩
  | k + 5, _, hu, h =>
    obtain ⟨⟨r, u, h1, h2, h3⟩, hF⟩ := h
    obtain ⟨u', e, p, b⟩ := hu u h2.2 h3 hF
    exact ⟨⟨r, u', h1, ⟨by rw [e]; exact h2.1, p⟩, b⟩, hF' hF⟩
theorem ws_small {φ : Nat → Nat} {cA : Nat → ClassId} {ρ : Rf} {μ : Mem} {X : List Sh} {k : Nat} (hk : k < 178) : (wsOf φ cA (GX X).2 ρ μ)[k]? = (wsOf φ cA GG.2 (cR ρ) (cM μ))[k]? := by
  have h1 : GG.2[k]? = some (GG.2.getD k (0, 0)) := by
    rw [List.getD_eq_getElem?_getD, List.getElem?_eq_getElem (show k < GG.2.length by rw [show GG.2.length = 178 from SH_len]; exact hk)]
    rfl
  have h2 : (GX X).2[k]? = some (GG.2.getD k (0, 0)) := by
    show (SH ++ X)[k]? = _
    rw [List.getElem?_append_left (by rw [SH_len]; exact hk)]
    exact h1
  rw [wsOf_get h1, wsOf_get h2, cR_lt hk, cM_lt hk]
theorem A_small {φ : Nat → Nat} {cA : Nat → ClassId} {ρ : Rf} {μ : Mem} {X : List Sh} {sz : Nat} : ∀ q, va_A (wsOf φ cA GG.2 (cR ρ) (cM μ)) sz q → va_A (wsOf φ cA (GX X).2 ρ μ) sz q := by
  intro q h
  rcases h with ⟨k, e, h⟩ | h
  · have hk : k < 178 := by
      have := (wsOf_at h).1
      rwa [show GG.2.length = 178 from SH_len] at this
    exact Or.inl ⟨k, e, by rw [ws_small hk]; exact h⟩
  · exact Or.inr h
theorem GX_get {X : List Sh} {o : Nat} {sh : Sh} (ho : o < 178) (h : (GX X).2[o]? = some sh) : GG.2[o]? = some sh := by
  have h : (SH ++ X)[o]? = some sh := h
  rw [List.getElem?_append_left (by rw [SH_len]; exact ho)] at h
  exact h
theorem MOk_gl {X : List Sh} {ρ ρ1 : Rf} {μ μ1 : Mem} (hM : MOk (GX X) ρ μ) (h1 : MOk GG ρ1 μ1) : MOk (GX X) (glR ρ1 ρ) (glM μ1 μ) := by
  have hl : GG.2.length = 178 := SH_len
  refine ⟨hM.1, fun o sh ho k => ?_, fun e o sh ho k off hk => ?_, fun o ho k => ?_⟩
  · unfold glR glM
    by_cases h : o < 178
    · rw [if_pos h, if_pos h]
      have h2 := h1.2.1 o sh (GX_get h ho) k
      rw [hl] at h2
      rw [GX_len]
      exact ⟨h2.1, h2.2.1, fun e => (h2.2.2 e).imp (fun z => by omega) id⟩
    · rw [if_neg h, if_neg h]
      exact hM.2.1 o sh ho k
  · unfold glR
    by_cases h : o < 178
    · rw [if_pos h]
      exact h1.2.2.1 rfl o sh (GX_get h ho) k off hk
    · rw [if_neg h]
      exact hM.2.2.1 e o sh ho k off hk
  · have ho' := ho
    rw [GX_len] at ho'
    unfold glR glM
    rw [if_neg (by omega), if_neg (by omega)]
    exact hM.2.2.2 o ho k
theorem cR_gl {ρ ρ1 : Rf} {μ1 : Mem} (h1 : MOk GG ρ1 μ1) : cR (glR ρ1 ρ) = ρ1 := by
  funext o k
  unfold cR glR
  by_cases h : o < 178
  · rw [if_pos h, if_pos h]
  · rw [if_neg h]
    exact (h1.2.2.2 o (by rw [show GG.2.length = 178 from SH_len]; omega) k).1.symm
theorem cM_gl {ρ1 : Rf} {μ μ1 : Mem} (h1 : MOk GG ρ1 μ1) : cM (glM μ1 μ) = μ1 := by
  funext o k
  unfold cM glM
  by_cases h : o < 178
  · rw [if_pos h, if_pos h]
  · rw [if_neg h]
    exact (h1.2.2.2 o (by rw [show GG.2.length = 178 from SH_len]; omega) k).2.symm
set_option maxHeartbeats 1000000 in
theorem qE_frame {M : MI} {as : List AV} {ρ : Rf} {μ : Mem} {Post : Int → Rf → Mem → Prop} {X : List Sh} (hk : M.2.2.2.1 ≠ 4) (has : okS 178 as) (h0 : MOk GG (cR ρ) (cM μ)) (h : qE M GG GG as (cR ρ) (cM μ) Post) : qE M (GX X) (GX X) as ρ μ (fun z ρ' μ' => Post z (cR ρ') (cM μ') ∧ MOk GG (cR ρ') (cM μ') ∧ ∀ o, 178 ≤ o → ρ' o = ρ o ∧ μ' o = μ o) := by
  intro hM hks l D cA ad φ sz
  have hl : GG.2.length = 178 := SH_len
  refine Met.conseq (h h0 (by rw [hl]; exact has) l D cA ad φ sz) ?_ ?_ A_small
  · rintro a s ⟨ha, hsz, hP, hK, hD, hEN, hs⟩
    have lt : ∀ {k : Nat} {q : Nat × va_E}, (wsOf φ cA GG.2 (cR ρ) (cM μ))[k]? = some q → (wsOf φ cA (GX X).2 ρ μ)[k]? = some q := fun {k q} hq => by
      have hk := (wsOf_at hq).1
      rw [hl] at hk
      rw [ws_small hk]
      exact hq
    exact ⟨ha, hsz, fun k q hq => hP k q (lt hq), hK, ⟨fun i j p q hi hj => hD.1 i j p q (lt hi) (lt hj), fun _ _ _ => trivial⟩, hEN.narrow A_small, hs⟩
  · rintro a s oc t ⟨ha, hsz, hP, hK, hD, hEN, hs⟩ hQ
    refine QcX_conv hk A_small (fun u hu hb hF => ?_) hQ
    obtain ⟨φ1, ρ1, μ1, z⟩ := u
    obtain ⟨q1, q2, q3, q4, q5⟩ := hu
    obtain ⟨b1, b2⟩ := hb
    have q2 : MOk GG ρ1 μ1 := q2
    have q1 : Agr GG.2.length φ1 φ := q1
    rw [hl] at q1
    refine ⟨(φ, glR ρ1 ρ, glM μ1 μ, z), rfl, ⟨fun _ _ => rfl, MOk_gl hM q2, ⟨?_, ?_, fun o ho => ⟨if_neg (by omega), if_neg (by omega)⟩⟩, q4, fun e => absurd e hk⟩, ?_, ?_⟩
    · show Post z (cR (glR ρ1 ρ)) (cM (glM μ1 μ))
      rw [cR_gl q2, cM_gl q2]
      exact q3
    · show MOk GG (cR (glR ρ1 ρ)) (cM (glM μ1 μ))
      rw [cR_gl q2, cM_gl q2]
      exact q2
    · intro k q hq
      obtain ⟨hk1, rfl⟩ := wsOf_at hq
      by_cases hk2 : k < 178
      · have hsh : GG.2[k]? = some ((GX X).2.getD k (0, 0)) := GX_get hk2 (by rw [List.getD_eq_getElem?_getD, List.getElem?_eq_getElem hk1]; rfl)
        have h3 := b1 k _ (wsOf_get hsh)
        have e1 : cellE φ1 cA ((GX X).2.getD k (0, 0)) (ρ1 k) (μ1 k) = cellE φ cA ((GX X).2.getD k (0, 0)) (ρ1 k) (μ1 k) := cellE_ext (n := 178) (by have := q2.2.1 k _ hsh; rw [hl] at this; exact this) (fun i hi => q1 i (Or.inl hi))
        have e2 : φ1 k = φ k := q1 k (Or.inl hk2)
        have h3 : va_at D vwCl (φ1 k, cellE φ1 cA ((GX X).2.getD k (0, 0)) (ρ1 k) (μ1 k)) t.heap := h3
        rw [e1, e2] at h3
        show va_at D vwCl (φ k, cellE φ cA ((GX X).2.getD k (0, 0)) (glR ρ1 ρ k) (glM μ1 μ k)) t.heap
        unfold glR glM
        rw [if_pos hk2, if_pos hk2]
        exact h3
      · show va_at D vwCl (φ k, cellE φ cA ((GX X).2.getD k (0, 0)) (glR ρ1 ρ k) (glM μ1 μ k)) t.heap
        unfold glR glM
        rw [if_neg hk2, if_neg hk2]
        have hsh : (GX X).2[k]? = some ((GX X).2.getD k (0, 0)) := by rw [List.getD_eq_getElem?_getD, List.getElem?_eq_getElem hk1]; rfl
        have hw := wsOf_get (φ := φ) (cA := cA) (ρ := ρ) (μ := μ) hsh
        have h3 := hP k _ hw
        refine h3.kept (hF.2 (φ k) h3.lt (fun hA => ?_))
        rcases hA with ⟨j, e, hj⟩ | hj
        · have hj1 := (wsOf_at hj).1
          rw [hl] at hj1
          have := hD.1 k j _ (φ k, e) hw (by rw [ws_small hj1]; exact hj) rfl
          omega
        · have := h3.lt
          have h5 : φ k < s.heap.size := this
          omega
    · refine ⟨fun i j p q hi hj hpq => ?_, fun k q hq => ?_⟩
      · obtain ⟨hi1, rfl⟩ := wsOf_at hi
        obtain ⟨hj1, rfl⟩ := wsOf_at hj
        have gi : (GX X).2[i]? = some ((GX X).2.getD i (0, 0)) := by rw [List.getD_eq_getElem?_getD, List.getElem?_eq_getElem hi1]; rfl
        have gj : (GX X).2[j]? = some ((GX X).2.getD j (0, 0)) := by rw [List.getD_eq_getElem?_getD, List.getElem?_eq_getElem hj1]; rfl
        exact hD.1 i j _ _ (wsOf_get (ρ := ρ) (μ := μ) gi) (wsOf_get (ρ := ρ) (μ := μ) gj) hpq
      · obtain ⟨hk1, rfl⟩ := wsOf_at hq
        have gk : (GX X).2[k]? = some ((GX X).2.getD k (0, 0)) := by rw [List.getD_eq_getElem?_getD, List.getElem?_eq_getElem hk1]; rfl
        exact Or.inl ⟨k, _, wsOf_get (ρ := ρ) (μ := μ) gk⟩
