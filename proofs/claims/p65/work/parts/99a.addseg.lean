/-! A segment more. -/
section ADDSEG
variable {S : shp} {v : vl} {a b m N q : Nat} {h c g t p X : Nat → Int} {M : Nat → Nat → Int} {now : sta} {sv : Option sta} {ps : List sta} {re ca ch : Int} {x y : Int}
def apT (g : Nat → Int) (x : Int) (t : Nat → Int) : Nat → Int := fun i => if (i : Int) = g 8 then x else t i
def apG (g : Nat → Int) : Nat → Int := fun j => if j = 8 then g 8 + 1 else g j
/-- the last segment's time -/
def lsZ (g t : Nat → Int) : Int := if 0 < g 8 then t (g 8 - 1).toNat else -1
def asS (s : sta) (x y : Int) : sta := (s.1, s.2.1, apG s.2.2.1, apT s.2.2.1 x s.2.2.2.1, apT s.2.2.1 y s.2.2.2.2.1, s.2.2.2.2.2)
theorem apJ {u : Int} (hJ : sgJ u t p g) (h8 : g 8 < 8) (hx : lsZ g t < x ∧ 0 ≤ x ∧ x ≤ 1999999) (hy : 0 ≤ y ∧ y ≤ 9999) (hu : u ≤ x) : sgJ u (apT g x t) (apT g y p) (apG g) := by
  obtain ⟨hI, b, c, d⟩ := hJ
  have e8 : apG g 8 = g 8 + 1 := rfl
  have e9 : apG g 9 = g 9 := rfl
  have lo : ∀ i : Nat, (i : Int) < g 8 → t i < x := fun i hi => by
    have hl : lsZ g t = t (g 8 - 1).toNat := if_pos (by omega)
    have := (c (g 8 - 1).toNat (by omega)).2.2
    by_cases z : i = (g 8 - 1).toNat
    · rw [z]; omega
    · have := this i (by omega)
      omega
  refine ⟨hI, ⟨by rw [e9]; exact b.1, by rw [e9, e8]; omega, by rw [e8]; omega⟩, fun i hi => ?_, fun i h1 h2 => ?_⟩
  · rw [e8] at hi
    by_cases z : (i : Int) = g 8
    · refine ⟨?_, ?_, fun j hj => ?_⟩
      · unfold apT
        rw [if_pos z]
        omega
      · unfold apT
        rw [if_pos z]
        exact hy
      · unfold apT
        rw [if_pos z, if_neg (by omega)]
        exact lo j (by omega)
    · obtain ⟨c1, c2, c3⟩ := c i (by omega)
      refine ⟨?_, ?_, fun j hj => ?_⟩
      · unfold apT
        rw [if_neg z]
        exact c1
      · unfold apT
        rw [if_neg z]
        exact c2
      · unfold apT
        rw [if_neg z, if_neg (by omega)]
        exact c3 j hj
  · rw [e8] at h2
    rw [e9] at h1
    unfold apT
    by_cases z : (i : Int) = g 8
    · rw [if_pos z]; exact hu
    · rw [if_neg z]; exact d i h1 (by omega)
-- the model's
end ADDSEG
