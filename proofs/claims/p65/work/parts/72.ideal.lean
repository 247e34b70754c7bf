/-! How unsteady the clock is; ideal values; how far apart. -/
section IDEAL
def minZ (x y : Int) : Int := if y < x then y else x
def maxZ (x y : Int) : Int := if x < y then y else x
theorem ma_minJ {S : shp} {v : vl} {x y : Int} (hx : -2147483648 ≤ x ∧ x < 2147483648) (hy : -2147483648 ≤ y ∧ y < 2147483648) : F_ma_min (J x) (J y) S v = some (J (minZ x y)) := by
  rw [ma_min]
  unfold minZ
  by_cases z : y < x
  · rw [if_pos ((J_lt hy hx).mpr z), if_pos z]
  · rw [if_neg (fun w => z ((J_lt hy hx).mp w)), if_neg z]
theorem ma_maxJ {S : shp} {v : vl} {x y : Int} (hx : -2147483648 ≤ x ∧ x < 2147483648) (hy : -2147483648 ≤ y ∧ y < 2147483648) : F_ma_max (J x) (J y) S v = some (J (maxZ x y)) := by
  rw [ma_max]
  unfold maxZ
  by_cases z : x < y
  · rw [if_pos ((J_lt hx hy).mpr z), if_pos z]
  · rw [if_neg (fun w => z ((J_lt hx hy).mp w)), if_neg z]
variable {S : shp} {v : vl} {a m N q : Nat} {h c g t p : Nat → Int} {M : Nat → Nat → Int} {sv : Option sta} {ps : List sta} {re ca ch : Int}
-- how far apart both ways are
end IDEAL
