/-! The model's row and what is copied. -/
section MROW
/-- what the model's row holds of a state -/
def hX (h : Nat → Int) : Nat → Int := fun k => match k with
  | 5 => h 1
  | 6 => h 2
  | 7 => h 3
  | 21 => h 4
  | _ => h 5
/-- all that holds of a state -/
def stV (h c g t p : Nat → Int) (M : Nat → Nat → Int) : Prop := hV h ∧ ckV c ∧ sgV t p g ∧ (∃ u, sgJ u t p g ∧ 0 ≤ u ∧ u ≤ h 0) ∧ h 0 < c 4 ∧ ∀ i : Nat, (i : Int) < h 5 → msV (M i)
end MROW
