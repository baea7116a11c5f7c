/-! ===== which of the reserved words a word is ===== -/
def offT : List Int := [1, 7, 11, 16, 24, 30, 38, 42, 47, 50]
def lenT : List Nat := [5, 3, 4, 7, 5, 7, 3, 4, 2]
def kwT : List Int := [500135192942, 6513010, 1835360620, 30233771112949102, 495874696043, 32776920184415609, 6975330, 1718775661, 29807]
def off (n : Nat) : Int := offT.getD n 0
def kwF (x : Int) : Nat → Nat → Int
  | 0, _ => -1
  | m + 1, n => if x = kwT.getD n 0 then (n : Int) else kwF x m (n + 1)
/-- the reserved word's number, or -1 -/
def kwI (x : Int) : Int := kwF x 9 0
section RSV
variable {ρ : Rf} {μ : Mem} {b : Int → Int} {n : Int}
end RSV
