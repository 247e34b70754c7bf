/-! The text that is read: the clock's statement. -/
section CLOCK2
variable {S : shp} {v w : vl} {a m N n : Nat} {B : Nat → Int} {z : Nat → Int} {R0 R Q : Nat → Int32} {ln : Nat → Nat} {W : Nat → Nat → Int} {h c g t p : Nat → Int} {M : Nat → Nat → Int}
/-- the class's clock is set going -/
theorem tx_start {q1 q2 q3 p1 p2 p3 : Int} (hL : gcL S a) (hC : CS S v a n B ln W z) (hD : stD S v (a + 3) (s00 q1 q2 q3)) : ∃ f, F_ck_start (a + 3 + 1) (J p1) (J p2) (J p3) S v = some (wr v (a + 3 + 1) f) ∧ CS S (wr v (a + 3 + 1) f) a n B ln W z ∧ stD S (wr v (a + 3 + 1) f) (a + 3) (s00 p1 p2 p3) := by
  obtain ⟨l, hh, hc, hW⟩ := hD
  obtain ⟨f, e1, e2⟩ := ck_startS (v := v) (p1 := p1) (p2 := p2) (p3 := p3) l.2.2.1
  exact ⟨f, e1, CS_d hC (by omega), l, by rw [rw_wr_ne (by omega)]; exact hh, by rw [rw_wr]; exact e2, sgW_ne hW (by omega)⟩
end CLOCK2
