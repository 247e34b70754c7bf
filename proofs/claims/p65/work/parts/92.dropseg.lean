/-! Dropping the last segment. -/
section DROPSEG
variable {S : shp} {v : vl} {a b m N q : Nat} {h c g t p X : Nat → Int} {M : Nat → Nat → Int} {now : sta} {sv : Option sta} {ps : List sta} {re ca ch : Int}
def f12 (c : Nat) : Nat := if c = 1 then 2 else c
end DROPSEG
