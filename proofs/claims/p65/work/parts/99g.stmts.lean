/-! The text that is read: the statements. -/
section STMTS
variable {S : shp} {v w : vl} {a m N n : Nat} {B : Nat → Int} {z : Nat → Int} {R0 R Q : Nat → Int32} {ln : Nat → Nat} {W : Nat → Nat → Int} {s : sta}
/-- seen once -/
def q1Z (i : Nat) (z : Nat → Int) : Nat → Int := fun k => if k = i then 1 else z k
theorem tx_once {i : Nat} (hN : 1000 ≤ N) (hL : gcL S a) (hC : CS S v a n B ln W z) (hz : zI n z) (hi : i = 5 ∨ i = 6 ∨ i = 7) : ∃ R', F_tx_advance N (a + 1) S (si v (a + 1) i (J 1)) = some (wr v (a + 1) R') ∧ CS S (wr v (a + 1) R') a n B ln W (adZ B n (q1Z i z)) := by
  have hR := hC.2.2
  have hC1 : CS S (wr v (a + 1) (up (rw v (a + 1)) i (J 1))) a n B ln W (q1Z i z) := by
    refine CS_wr hC ⟨by rw [up_ne (by omega)]; exact hR.1, fun k h2 h13 => ?_⟩
    unfold q1Z
    by_cases ki : k = i
    · subst ki; rw [up_same, if_pos rfl]
    · rw [if_neg ki, up_ne ki]; exact hR.2 k h2 h13
  have e10 : q1Z i z 10 = z 10 := by unfold q1Z; rw [if_neg (by omega)]
  obtain ⟨R', e1, e2⟩ := tx_advS (N := N) hN hL hC1 (by rw [e10]; exact (zI_10 hz))
  rw [wr_wr] at e1 e2
  rw [si_wr]
  exact ⟨R', e1, e2⟩
/-- the prescaler of a draft -/
theorem dV_ps {P : Int} (hs : dV s) (hP : 1 ≤ P ∧ P ≤ 16) : dV (psS P s) := by
  obtain ⟨h1, h2, h3, h4, h5⟩ := hs
  exact ⟨psS_V h1 hP, h2, h3, ⟨rfl, rfl, rfl⟩, h5⟩
end STMTS
