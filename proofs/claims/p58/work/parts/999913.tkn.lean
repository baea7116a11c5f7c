/-! ===== the law's text, token by token ===== -/
abbrev Tkn : Type := Bool × Nat × List Int
def enT (t : Tkn) : List Int := (if t.1 then [32] else []) ++ t.2.2
def enS : List Tkn → List Int
  | [] => []
  | t :: r => enT t ++ enS r
theorem enS_app : ∀ {a b : List Tkn}, enS (a ++ b) = enS a ++ enS b
  | [], _ => rfl
  | t :: a, b => by
    show enT t ++ enS (a ++ b) = (enT t ++ enS a) ++ enS b
    rw [enS_app, List.append_assoc]
def nT (v : Int) : Tkn := (true, 2, digs v)
def cT : Tkn := (false, 3, [59])
def mT (v : Int) : Tkn := (true, 1, if v = 0 then teaW else riceW)
def trainW : List Int := [116, 114, 97, 105, 110]
def fromW : List Int := [102, 114, 111, 109]
def toW : List Int := [116, 111]
def carW : List Int := [99, 97, 114]
def mealW : List Int := [109, 101, 97, 108]
def kitW : List Int := [107, 105, 116, 99, 104, 101, 110]
def stoW : List Int := [115, 116, 111, 99, 107]
def troW : List Int := [116, 114, 111, 108, 108, 101, 121]
def jobW : List Int := [106, 111, 98]
def kT (w : List Int) : Tkn := (false, 1, w)
def bT (w : List Int) : Tkn := (true, 1, w)
def sayK (w : Int) (tk : List Tkn) : Bool := decide ((∀ i : Nat, i < 8 → 0 ≤ sayB w i ∧ sayB w i < 256 ∧ l2i (sayB w i) = sayB w i) ∧ sayL w 8 = enS tk)
theorem k_train : sayK 500135192942 [kT trainW] = true := by decide +kernel
theorem k_from : sayK 139157729133 [bT fromW] = true := by decide +kernel
theorem k_to : sayK 2126959 [bT toW] = true := by decide +kernel
theorem k_car : sayK 6513010 [kT carW] = true := by decide +kernel
theorem k_meal : sayK 1835360620 [kT mealW] = true := by decide +kernel
theorem k_kit : sayK 30233771112949102 [kT kitW] = true := by decide +kernel
theorem k_sto : sayK 495874696043 [kT stoW] = true := by decide +kernel
theorem k_tro : sayK 32776920184415609 [kT troW] = true := by decide +kernel
theorem k_job : sayK 996831074 [cT, kT jobW] = true := by decide +kernel
theorem adv {ts r TS : List Tkn} {t : Tkn} (e : ts ++ (t :: r) = TS) : (ts ++ [t]) ++ r = TS := by
  rw [List.append_assoc]
  exact e
theorem adv2 {ts r TS tk : List Tkn} (e : ts ++ (tk ++ r) = TS) : (ts ++ tk) ++ r = TS := by
  rw [List.append_assoc]
  exact e
theorem pre_len {ts r TS : List Tkn} (e : ts ++ r = TS) (h : (enS TS).length < 800) : (enS ts).length < 800 := by
  rw [← e, enS_app, List.length_append] at h
  omega
def HX (X : List Sh) (x y : Nat) : Prop := (GX X).2[x]? = some (10, 7) ∧ (GX X).2[y]? = some (10, 200) ∧ 178 ≤ x ∧ 178 ≤ y ∧ y ≠ x
def WX (x y : Nat) (W : Int → Int) (ρ0 : Rf) (μ0 : Mem) (ts : List Tkn) (ρ : Rf) (μ : Mem) (σ : Sg) : Prop := LI ρ μ σ ∧ WT (enS ts) σ (μ x) ∧ μ y = W ∧ OUX x ρ0 μ0 ρ μ
section TKN
variable {ρ ρ0 : Rf} {μ μ0 : Mem} {σ : Sg} {X : List Sh} {x y : Nat} {ts r TS : List Tkn} {W : Int → Int} {v w : Int}
theorem wx_of {T : List Int} (H : HX X x y) (C : WX x y W ρ0 μ0 ts ρ μ σ) {tk : List Tkn} (hT : enS ts ++ T = enS (ts ++ tk)) : ∀ (z : Int) (ρ' : Rf) (μ' : Mem), WPo (enS ts ++ T) x ρ μ z ρ' μ' → ∃ σ', WX x y W ρ0 μ0 (ts ++ tk) ρ' μ' σ' := by
  rintro z ρ' μ' ⟨σ', L, k, O⟩
  rw [hT] at k
  exact ⟨σ', L, k, ((O y H.2.2.2.1).2 H.2.2.2.2).trans C.2.2.1, C.2.2.2.trans O⟩
theorem t_say {tk : List Tkn} (hk : sayK w tk = true) (H : HX X x y) (hl : (enS TS).length < 800) (C : WX x y W ρ0 μ0 ts ρ μ σ) (e : ts ++ r = TS) : qE mL_say (GX X) (GX X) [qP 0, qP x, qJ w] ρ μ (fun _ ρ' μ' => ∃ σ', WX x y W ρ0 μ0 (ts ++ tk) ρ' μ' σ') := by
  have hk := of_decide_eq_true hk
  refine qE_post (wx_of H C (by rw [hk.2, enS_app])) (l_say H.1 H.2.2.1 hk.1 C.1 C.2.1 (by have := pre_len e hl; omega))
theorem t_part (H : HX X x y) (hl : (enS TS).length < 800) (C : WX x y W ρ0 μ0 ts ρ μ σ) (e : ts ++ r = TS) (hv : 0 ≤ v ∧ v ≤ 999) : qE mL_part (GX X) (GX X) [qP 0, qP x, qI v] ρ μ (fun _ ρ' μ' => ∃ σ', WX x y W ρ0 μ0 (ts ++ [nT v]) ρ' μ' σ') :=
  qE_post (wx_of H C (by rw [enS_app]; congr 1; show _ = enT (nT v) ++ []; rw [List.append_nil]; rfl)) (l_part H.1 H.2.2.1 hv C.1 C.2.1 (by have := pre_len e hl; omega))
theorem t_meal (H : HX X x y) (hl : (enS TS).length < 800) (C : WX x y W ρ0 μ0 ts ρ μ σ) (e : ts ++ r = TS) : qE mL_mealName (GX X) (GX X) [qP 0, qP x, qI v] ρ μ (fun _ ρ' μ' => ∃ σ', WX x y W ρ0 μ0 (ts ++ [mT v]) ρ' μ' σ') :=
  qE_post (wx_of H C (by rw [enS_app]; congr 1; show _ = enT (mT v) ++ []; rw [List.append_nil]; rfl)) (l_mealName H.1 H.2.2.1 C.1 C.2.1 (by have := pre_len e hl; omega))
theorem t_put (H : HX X x y) (hl : (enS TS).length < 800) (C : WX x y W ρ0 μ0 ts ρ μ σ) (e : ts ++ r = TS) : qE mL_put (GX X) (GX X) [qP 0, qP x, qI 59] ρ μ (fun _ ρ' μ' => ∃ σ', WX x y W ρ0 μ0 (ts ++ [cT]) ρ' μ' σ') :=
  qE_post (wx_of H C (by rw [enS_app]; rfl)) (l_put H.1 H.2.2.1 C.1 C.2.1 (by decide) (by have := pre_len e hl; omega))
end TKN
