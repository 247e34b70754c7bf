/-! The text that is read: gate, periods, segments. -/
section STMT2
variable {S : shp} {v w : vl} {a m N n : Nat} {B : Nat → Int} {z : Nat → Int} {R0 R Q : Nat → Int32} {ln : Nat → Nat} {W : Nat → Nat → Int} {s : sta}
theorem stD_ap {x y : Int} (hs : dV s) (h8 : s.2.2.1 8 < 8) (hx : lsZ s.2.2.1 s.2.2.2.1 < x ∧ 0 ≤ x ∧ x ≤ 999999) (hy : 0 ≤ y ∧ y ≤ 9999) : dV (asS s x y) := by
  obtain ⟨h1, h2, h3, h4, h5⟩ := hs
  obtain ⟨hh, hc, ⟨⟨u, hJ, q0, q1⟩, g6, g7⟩, ⟨u', hJ', q0', q1'⟩, hT, hM⟩ := h1
  have J := apJ (x := x) (y := y) hJ' h8 (by omega) hy (by omega)
  have e8 : (asS s x y).2.2.1 8 = s.2.2.1 8 + 1 := rfl
  have b8 := hJ'.2.1
  refine ⟨⟨hh, hc, ⟨⟨u', J, q0', by omega⟩, g6, g7⟩, ⟨u', J, q0', q1'⟩, hT, hM⟩, h2, h3, h4, ?_⟩
  show lsZ (apG s.2.2.1) (apT s.2.2.1 x s.2.2.2.1) ≤ 999999
  have e : lsZ (apG s.2.2.1) (apT s.2.2.1 x s.2.2.2.1) = x := by
    unfold lsZ
    have e8' : apG s.2.2.1 8 = s.2.2.1 8 + 1 := rfl
    rw [e8', if_pos (by omega), show s.2.2.1 8 + 1 - 1 = s.2.2.1 8 by omega]
    unfold apT
    rw [if_pos (by omega)]
  omega
end STMT2
