/-! Spread, sharpest, median. -/
section LISTS
variable {S : shp} {v : vl} {a b m N q : Nat} {h c g t p X : Nat → Int} {M : Nat → Nat → Int} {sv : Option sta} {ps : List sta} {re ca ch : Int}
-- spread
def m4 (M : Nat → Nat → Int) (i : Nat) : Int := M i 4
-- sharpest
def m3 (M : Nat → Nat → Int) (i : Nat) : Int := M i 3
-- median
end LISTS
