/-! The model's row: T its time, c its clock, g its signal (both in the class's order), X the rest. -/
section MODEL
def mk (X : Nat → Int) (T : Int) (c g : Nat → Int) : Nat → Int := fun k => match k with
  | 0 => T
  | 1 => c 0
  | 2 => c 1
  | 3 => c 2
  | 4 => g 4
  | 5 => X 5
  | 6 => X 6
  | 7 => X 7
  | 8 => c 3
  | 9 => c 4
  | 10 => c 6
  | 11 => c 5
  | 12 => g 0
  | 13 => g 1
  | 14 => g 2
  | 15 => g 5
  | 16 => g 3
  | 17 => g 2 - g 6
  | 18 => g 3 - g 7
  | 19 => g 8
  | 20 => g 9
  | k => X k
/-- the model at m: its row at m + 1, and its other rows -/
def mdL (S : shp) (m : Nat) : Prop := kin S m = some (0, 6) ∧ gr S m 0 = some (m + 1) ∧ kin S (m + 1) = some (1, 199) ∧ (gr S m 1 = some (m + 2) ∧ kin S (m + 2) = some (1, 199)) ∧ (gr S m 2 = some (m + 3) ∧ kin S (m + 3) = some (1, 199)) ∧ (gr S m 3 = some (m + 4) ∧ kin S (m + 4) = some (1, 199)) ∧ (gr S m 4 = some (m + 5) ∧ kin S (m + 5) = some (1, 1592)) ∧ (gr S m 16 = some (m + 6) ∧ kin S (m + 6) = some (1, 500)) ∧ (gr S m 28 = some (m + 7) ∧ kin S (m + 7) = some (1, 300))
theorem gm_ages {S : shp} {v : vl} {m : Nat} {R : Nat → Int} (hl : mdL S m) (hc : rw v (m + 1) = iz R) (hr : rB R) (h2 : -99 ≤ R 2 ∧ R 2 ≤ 99) (h3 : -1 ≤ R 3 ∧ R 3 ≤ 1) : F_gm_ages m S v = some (wr v (m + 1) (iz (fun k => if k = 2 then clampZ (R 2 + R 3) else R k))) := by
  have gg : ∀ k, (rw v (m + 1) k).toInt = R k := fun k => by rw [hc]; exact zi_iz hr k
  have e := within_ok (rw v (m + 1) 2 + rw v (m + 1) 3) S v
  unfold F_gc_withinOff at e
  unfold F_gm_ages
  rw [grd_true _ hl.1, hl.2.1]
  simp only [Option.bind_some]
  rw [grd_true _ hl.2.2.1]
  simp only [gi_rw]
  rw [ma_min] at e ⊢
  simp only [Option.bind_some] at e ⊢
  rw [ma_max] at e ⊢
  simp only [Option.bind_some] at e ⊢
  rw [Option.some.inj e]
  simp only [lt_def, si_wr]
  refine congrArg (fun f => some (wr v (m + 1) f)) (row_ext fun k => ?_)
  have es : (rw v (m + 1) 2 + rw v (m + 1) 3).toInt = R 2 + R 3 := by rw [i_add, gg, gg] <;> (rw [gg, gg]; omega)
  unfold up
  rw [es]
  by_cases h : k = 2
  · rw [if_pos h, if_pos h]
    refine J_toInt ?_ ?_ <;> (unfold clampZ; split <;> first | omega | (split <;> omega))
  · rw [if_neg h, if_neg h]; exact gg k
end MODEL
