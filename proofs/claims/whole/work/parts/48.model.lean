/-! The model's row: T its time, c its clock, g its signal (both in the class's order), X the rest. -/
section MODEL
def mk (X : Nat → Int) (T : Int) (c g : Nat → Int) : Nat → Int := fun k => match k with
  | 0 => T
  | 1 => c 0
  | 2 => c 1
  | 3 => c 2
  | 4 => g 4
  | 5 => X 5
  | 6 => X 6
  | 7 => X 7
  | 8 => c 3
  | 9 => c 4
  | 10 => c 6
  | 11 => c 5
  | 12 => g 0
  | 13 => g 1
  | 14 => g 2
  | 15 => g 5
  | 16 => g 3
  | 17 => g 2 - g 6
  | 18 => g 3 - g 7
  | 19 => g 8
  | 20 => g 9
  | k => X k
/-- the model at m: its row at m + 1, and its other rows -/
def mdL (S : shp) (m : Nat) : Prop := kin S m = some (0, 6) ∧ gr S m 0 = some (m + 1) ∧ kin S (m + 1) = some (1, 199) ∧ (gr S m 1 = some (m + 2) ∧ kin S (m + 2) = some (1, 199)) ∧ (gr S m 2 = some (m + 3) ∧ kin S (m + 3) = some (1, 199)) ∧ (gr S m 3 = some (m + 4) ∧ kin S (m + 4) = some (1, 199)) ∧ (gr S m 4 = some (m + 5) ∧ kin S (m + 5) = some (1, 1592)) ∧ (gr S m 16 = some (m + 6) ∧ kin S (m + 6) = some (1, 500)) ∧ (gr S m 28 = some (m + 7) ∧ kin S (m + 7) = some (1, 300))
theorem gm_ages {S : shp} {v : vl} {m : Nat} {R : Nat → Int} (hl : mdL S m) (hc : rw v (m + 1) = iz R) (hr : rB R) (h2 : -99 ≤ R 2 ∧ R 2 ≤ 99) (h3 : -1 ≤ R 3 ∧ R 3 ≤ 1) : F_gm_ages m S v = some (wr v (m + 1) (iz (fun k => if k = 2 then clampZ (R 2 + R 3) else R k))) := by
  have gg : ∀ k, (rw v (m + 1) k).toInt = R k := fun k => by rw [hc]; exact zi_iz hr k
  have e := within_ok (rw v (m + 1) 2 + rw v (m + 1) 3) S v
  unfold F_gc_withinOff at e
  unfold F_gm_ages
  rw [grd_true _ hl.1, hl.2.1]
  simp only [Option.bind_some]
  rw [grd_true _ hl.2.2.1]
  simp only [gi_rw]
  rw [ma_min] at e ⊢
  simp only [Option.bind_some] at e ⊢
  rw [ma_max] at e ⊢
  simp only [Option.bind_some] at e ⊢
  rw [Option.some.inj e]
  simp only [lt_def, si_wr]
  refine congrArg (fun f => some (wr v (m + 1) f)) (row_ext fun k => ?_)
  have es : (rw v (m + 1) 2 + rw v (m + 1) 3).toInt = R 2 + R 3 := by rw [i_add, gg, gg] <;> (rw [gg, gg]; omega)
  unfold up
  rw [es]
  by_cases h : k = 2
  · rw [if_pos h, if_pos h]
    refine J_toInt ?_ ?_ <;> (unfold clampZ; split <;> first | omega | (split <;> omega))
  · rw [if_neg h, if_neg h]; exact gg k
theorem mk_rB {X : Nat → Int} {T : Int} {c g : Nat → Int} (h : rB (mk X T c g)) : rB X ∨ True := Or.inr trivial
/-- a row with bounds at two places changed -/
theorem gm_clockComes {S : shp} {v : vl} {m : Nat} {X : Nat → Int} {T : Int} {c g : Nat → Int} (hl : mdL S m) (hc : rw v (m + 1) = iz (mk X T c g)) (hr : rB (mk X T c g)) (hb : ckB c) :
    F_gm_clockComes m S v = some (wr v (m + 1) (iz (mk X (c 4) (tkZ c) g))) := by
  have gg : ∀ k, (rw v (m + 1) k).toInt = mk X T c g k := fun k => by rw [hc]; exact zi_iz hr k
  have hD := tkD_B hb
  obtain ⟨b0, b1, b2, b3, b4, b5⟩ := hb
  have g11 : (rw v (m + 1) 11).toInt = c 5 := gg 11
  have e5 : (rw v (m + 1) 11 + J 1).toInt = c 5 + 1 := by rw [i_add, g11, tJ] <;> (rw [g11, tJ]; omega)
  have er : (rw v (m + 1) 11 + J 1 - (rw v (m + 1) 11 + J 1) / J 100 * J 100).toInt = (c 5 + 1) % 100 := by
    rw [i_rem (by rw [e5]; omega) (by rw [tJ]; decide), e5, tJ]
  -- what comes behind the aging
  have last : ∀ (w : vl) (R : Nat → Int), rw w (m + 1) = iz R → rB R → R 8 = c 3 → R 2 = tkD c → R 9 = c 4 → R 1 = c 0 →
      K_gm_clockComes_55 S w m = some (wr w (m + 1) (iz (fun k => if k = 9 then c 4 + c 0 + (c 3 + tkD c) / 1000 else if k = 8 then (c 3 + tkD c) % 1000 else R k))) := by
    intro w R hw hR r8 r2 r9 r1
    have gw : ∀ k, (rw w (m + 1) k).toInt = R k := fun k => by rw [hw]; exact zi_iz hR k
    have es : (rw w (m + 1) 8 + rw w (m + 1) 2).toInt = c 3 + tkD c := by rw [i_add, gw, gw, r8, r2] <;> (rw [gw, gw, r8, r2]; omega)
    unfold K_gm_clockComes_55
    rw [grd_true _ hl.1, hl.2.1]
    simp only [Option.bind_some]
    rw [grd_true _ hl.2.2.1, fdiv_ok (by rw [tJ]; decide) (by rw [tJ]; decide)]
    simp only [Option.bind_some, lt_def, si_wr, wr_wr, rw_wr, gi_rw]
    have e1000 : (J 1000).toInt = 1000 := tJ
    rw [es, e1000]
    have eq : (J ((c 3 + tkD c) / 1000)).toInt = (c 3 + tkD c) / 1000 := J_toInt (by omega) (by omega)
    have em : (J 1000 * J ((c 3 + tkD c) / 1000)).toInt = 1000 * ((c 3 + tkD c) / 1000) := by rw [i_mul, e1000, eq] <;> (rw [e1000, eq]; omega)
    refine congrArg (fun f => some (wr w (m + 1) f)) (row_ext fun k => ?_)
    unfold up
    by_cases h9 : k = 9
    · rw [if_pos h9, if_pos h9]
      show (rw w (m + 1) 9 + (rw w (m + 1) 1 + J ((c 3 + tkD c) / 1000))).toInt = _
      have e1 : (rw w (m + 1) 1 + J ((c 3 + tkD c) / 1000)).toInt = c 0 + (c 3 + tkD c) / 1000 := by rw [i_add, gw, eq, r1] <;> (rw [gw, eq, r1]; omega)
      rw [i_add, e1, gw, r9]
      · omega
      · rw [e1, gw, r9]; omega
      · rw [e1, gw, r9]; omega
    · rw [if_neg h9, if_neg h9]
      by_cases h8 : k = 8
      · rw [if_pos h8, if_pos h8]
        rw [i_sub, es, em]
        · omega
        · rw [es, em]; omega
        · rw [es, em]; omega
      · rw [if_neg h8, if_neg h8]; exact gw k
  unfold F_gm_clockComes
  rw [grd_true _ hl.1, hl.2.1]
  simp only [Option.bind_some]
  rw [grd_true _ hl.2.2.1]
  simp only [lt_def, si_wr, wr_wr, rw_wr, gi_rw]
  let R3 : Nat → Int := fun k => if k = 11 then c 5 + 1 else if k = 10 then c 4 else if k = 0 then c 4 else mk X T c g k
  have h3 : up (up (up (rw v (m + 1)) 0 (rw v (m + 1) 9)) 10 (up (rw v (m + 1)) 0 (rw v (m + 1) 9) 9)) 11 (up (up (rw v (m + 1)) 0 (rw v (m + 1) 9)) 10 (up (rw v (m + 1)) 0 (rw v (m + 1) 9) 9) 11 + J 1) = iz R3 := by
    refine row_ext fun k => ?_
    unfold up
    show (if k = 11 then rw v (m + 1) 11 + J 1 else if k = 10 then rw v (m + 1) 9 else if k = 0 then rw v (m + 1) 9 else rw v (m + 1) k).toInt = (if k = 11 then c 5 + 1 else if k = 10 then c 4 else if k = 0 then c 4 else mk X T c g k)
    split
    · exact e5
    · split
      · exact gg 9
      · split
        · exact gg 9
        · exact gg k
  have r3 : rB R3 := by
    intro k
    show _ ≤ (if k = 11 then c 5 + 1 else if k = 10 then c 4 else if k = 0 then c 4 else mk X T c g k) ∧ (if k = 11 then c 5 + 1 else if k = 10 then c 4 else if k = 0 then c 4 else mk X T c g k) < _
    split
    · omega
    · split
      · omega
      · split
        · omega
        · exact hr k
  rw [h3]
  have i11 : (iz R3 11).toInt = c 5 + 1 := zi_iz r3 11
  have er3 : (iz R3 11 - iz R3 11 / J 100 * J 100).toInt = (c 5 + 1) % 100 := by
    rw [i_rem (by rw [i11]; omega) (by rw [tJ]; decide), i11, tJ]
  by_cases h : (c 5 + 1) % 100 = 0
  · have hd : tkD c = clampZ (c 1 + c 2) := if_pos h
    rw [if_pos (i_eq.mpr (by rw [er3, h, tJ])), gm_ages hl rw_wr r3 b1 b2]
    simp only [Option.bind_some]
    have r4 : rB (fun k => if k = 2 then clampZ (R3 2 + R3 3) else R3 k) := by
      intro k
      show _ ≤ (if k = 2 then clampZ (c 1 + c 2) else R3 k) ∧ (if k = 2 then clampZ (c 1 + c 2) else R3 k) < _
      split
      · omega
      · exact r3 k
    rw [wr_wr, last _ _ rw_wr r4 rfl hd.symm rfl rfl, wr_wr]
    refine congrArg (fun f => some (wr v (m + 1) (iz f))) (funext fun k => ?_)
    match k with
    | 0 => rfl
    | 1 => rfl
    | 2 => exact hd.symm
    | 3 => rfl
    | 4 => rfl
    | 5 => rfl
    | 6 => rfl
    | 7 => rfl
    | 8 => rfl
    | 9 => rfl
    | 10 => rfl
    | 11 => rfl
    | 12 => rfl
    | 13 => rfl
    | 14 => rfl
    | 15 => rfl
    | 16 => rfl
    | 17 => rfl
    | 18 => rfl
    | 19 => rfl
    | 20 => rfl
    | j + 21 => rfl
  · have hd : tkD c = c 1 := if_neg h
    rw [if_neg (fun q => h (by have := i_eq.mp q; rw [er3, tJ] at this; exact this)), last _ _ rw_wr r3 rfl hd.symm rfl rfl, wr_wr]
    refine congrArg (fun f => some (wr v (m + 1) (iz f))) (funext fun k => ?_)
    match k with
    | 0 => rfl
    | 1 => rfl
    | 2 => exact hd.symm
    | 3 => rfl
    | 4 => rfl
    | 5 => rfl
    | 6 => rfl
    | 7 => rfl
    | 8 => rfl
    | 9 => rfl
    | 10 => rfl
    | 11 => rfl
    | 12 => rfl
    | 13 => rfl
    | 14 => rfl
    | 15 => rfl
    | 16 => rfl
    | 17 => rfl
    | 18 => rfl
    | 19 => rfl
    | 20 => rfl
    | j + 21 => rfl
end MODEL
