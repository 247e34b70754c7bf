/-! What the model tells of a measurement. -/
section TOLD
theorem stV_8 {h c g t p : Nat → Int} {M : Nat → Nat → Int} (hV : stV h c g t p M) : 0 ≤ g 9 ∧ g 9 ≤ g 8 ∧ g 8 ≤ 8 := hV.2.2.1.1.choose_spec.1.2.1
end TOLD
