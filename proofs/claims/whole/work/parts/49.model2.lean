/-! The model's edges and segments. -/
section MODEL2
theorem gm_edgeComes {S : shp} {v : vl} {m : Nat} {X : Nat → Int} {T : Int} {c g : Nat → Int} (hl : mdL S m) (hc : rw v (m + 1) = iz (mk X T c g)) (hr : rB (mk X T c g)) (hb : sgB g) (hs : (-3000000 ≤ g 2 - g 6 ∧ g 2 - g 6 ≤ 3000000) ∧ (-3000000 ≤ g 3 - g 7 ∧ g 3 - g 7 ≤ 3000000)) :
    F_gm_edgeComes m S v = some (if g 5 + 1 < g 4 then J 0 else J 1, wr v (m + 1) (iz (mk X (g 1) c (egZ g)))) := by
  have gg : ∀ k, (rw v (m + 1) k).toInt = mk X T c g k := fun k => by rw [hc]; exact zi_iz hr k
  obtain ⟨b0, b1, b2, b3, b4, b5⟩ := hb
  have e13 : (rw v (m + 1) 13 + rw v (m + 1) 12).toInt = g 1 + g 0 := by
    have a := gg 13; have b := gg 12
    rw [i_add, a, b] <;> (first | rfl | (rw [a, b]; show _ ≤ g 1 + g 0; omega) | (rw [a, b]; show g 1 + g 0 < _; omega))
  have p1 : ∀ {k : Nat} {z : Int}, mk X T c g k = z → -3000000 ≤ z → z ≤ 3000000 → (rw v (m + 1) k + J 1).toInt = z + 1 := by
    intro k z hz h1 h2
    have a := gg k
    rw [hz] at a
    rw [i_add, a, tJ] <;> (rw [a, tJ]; omega)
  have e14 := p1 (k := 14) (z := g 2) rfl (by omega) (by omega)
  have e15 := p1 (k := 15) (z := g 5) rfl (by omega) (by omega)
  have e16 := p1 (k := 16) (z := g 3) rfl (by omega) (by omega)
  have e17 := p1 (k := 17) (z := g 2 - g 6) rfl (by omega) (by omega)
  have e18 := p1 (k := 18) (z := g 3 - g 7) rfl (by omega) (by omega)
  have g4 : (rw v (m + 1) 4).toInt = g 4 := gg 4
  unfold F_gm_edgeComes
  rw [grd_true _ hl.1, hl.2.1]
  simp only [Option.bind_some]
  rw [grd_true _ hl.2.2.1]
  simp only [lt_def, si_wr, wr_wr, rw_wr, gi_rw]
  have hcond : (rw v (m + 1) 15 + J 1 < rw v (m + 1) 4) ↔ g 5 + 1 < g 4 := by rw [i_lt, e15, g4]
  show (if rw v (m + 1) 15 + J 1 < rw v (m + 1) 4 then some (J 0, wr v (m + 1) _) else some (J 1, wr v (m + 1) _)) = _
  by_cases h : g 5 + 1 < g 4
  · rw [if_pos (hcond.mpr h), if_pos h]
    refine congrArg (fun f => some (J 0, wr v (m + 1) f)) (row_ext fun k => ?_)
    unfold up
    match k with
    | 0 => exact gg 13
    | 1 => exact gg 1
    | 2 => exact gg 2
    | 3 => exact gg 3
    | 4 => exact gg 4
    | 5 => exact gg 5
    | 6 => exact gg 6
    | 7 => exact gg 7
    | 8 => exact gg 8
    | 9 => exact gg 9
    | 10 => exact gg 10
    | 11 => exact gg 11
    | 12 => exact gg 12
    | 13 => exact e13
    | 14 => exact e14
    | 15 => show (rw v (m + 1) 15 + J 1).toInt = (if g 5 + 1 < g 4 then g 5 + 1 else 0); rw [if_pos h]; exact e15
    | 16 => show (rw v (m + 1) 16).toInt = (if g 5 + 1 < g 4 then g 3 else g 3 + 1); rw [if_pos h]; exact gg 16
    | 17 => show (rw v (m + 1) 17 + J 1).toInt = g 2 + 1 - g 6; rw [e17]; omega
    | 18 => show (rw v (m + 1) 18).toInt = (if g 5 + 1 < g 4 then g 3 else g 3 + 1) - g 7; rw [if_pos h]; exact gg 18
    | 19 => exact gg 19
    | 20 => exact gg 20
    | j + 21 => exact gg (j + 21)
  · rw [if_neg (fun q => h (hcond.mp q)), if_neg h]
    refine congrArg (fun f => some (J 1, wr v (m + 1) f)) (row_ext fun k => ?_)
    unfold up
    match k with
    | 0 => exact gg 13
    | 1 => exact gg 1
    | 2 => exact gg 2
    | 3 => exact gg 3
    | 4 => exact gg 4
    | 5 => exact gg 5
    | 6 => exact gg 6
    | 7 => exact gg 7
    | 8 => exact gg 8
    | 9 => exact gg 9
    | 10 => exact gg 10
    | 11 => exact gg 11
    | 12 => exact gg 12
    | 13 => exact e13
    | 14 => exact e14
    | 15 => show (J 0).toInt = (if g 5 + 1 < g 4 then g 5 + 1 else 0); rw [if_neg h]; exact tJ
    | 16 => show (rw v (m + 1) 16 + J 1).toInt = (if g 5 + 1 < g 4 then g 3 else g 3 + 1); rw [if_neg h]; exact e16
    | 17 => show (rw v (m + 1) 17 + J 1).toInt = g 2 + 1 - g 6; rw [e17]; omega
    | 18 => show (rw v (m + 1) 18 + J 1).toInt = (if g 5 + 1 < g 4 then g 3 else g 3 + 1) - g 7; rw [if_neg h, e18]; omega
    | 19 => exact gg 19
    | 20 => exact gg 20
    | j + 21 => exact gg (j + 21)
end MODEL2
