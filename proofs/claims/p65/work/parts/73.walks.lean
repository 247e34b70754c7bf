/-! Walks over the clock's edges. -/
section WALK
def eB (c : Nat → Int) (i : Nat) : Bool := decide ((tkN i c) 4 ≤ 2000000)
variable {S : shp} {v : vl} {a b m N q : Nat} {h c g t p X : Nat → Int} {M : Nat → Nat → Int} {sv : Option sta} {ps : List sta} {re ca ch : Int}
theorem J_s {j : Nat} : J (j : Int) + J 1 = J ((j + 1 : Nat) : Int) := (J_add _ _).symm
-- the model's walk
end WALK
