/-! ===== the reference takes a token ===== -/
def TXm (μ : Mem) (b : Int → Int) (n : Int) : Prop := (∀ k, 0 ≤ k → k < n → μ 179 k = b k) ∧ μ 178 4 = n
def rk (k : Int) : Int := if k = 4 then 0 else k + 1
section MAD
variable {ρ : Rf} {μ μ0 : Mem} {b : Int → Int} {n : Int}
end MAD
