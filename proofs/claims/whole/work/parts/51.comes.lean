/-! What comes next in the model. -/
section COMES
def mt (X : Nat → Int) : Nat → Int := fun i => X (23 + 2 * i)
def mp (X : Nat → Int) : Nat → Int := fun i => X (24 + 2 * i)
/-- what holds of the model's time, clock and signal all along -/
def mdI (X : Nat → Int) (T : Int) (c g : Nat → Int) : Prop := (∃ u, sgJ u (mt X) (mp X) g ∧ 0 ≤ u ∧ u ≤ 2100000) ∧ ckI c ∧ (c 4 ≤ 2101000 ∧ 9 * c 5 ≤ c 4) ∧ rB X ∧ (0 ≤ T ∧ T ≤ 2100000) ∧ (0 ≤ c 6 ∧ c 6 ≤ 2100000) ∧ (0 ≤ g 6 ∧ g 6 ≤ g 2) ∧ (0 ≤ g 7 ∧ g 7 ≤ g 3)
theorem mdI_sgB {X : Nat → Int} {T : Int} {c g : Nat → Int} (h : mdI X T c g) : sgB g := by
  obtain ⟨⟨u, hJ, h0, h1⟩, -⟩ := h
  exact sgI_B hJ.1 ⟨h0, h1⟩
theorem mdI_ckB {X : Nat → Int} {T : Int} {c g : Nat → Int} (h : mdI X T c g) : ckB c := by
  obtain ⟨-, h1, h2, -⟩ := h
  exact ckI_B h1 (by omega) (by omega)
theorem mdI_rB {X : Nat → Int} {T : Int} {c g : Nat → Int} (h : mdI X T c g) : rB (mk X T c g) := by
  obtain ⟨⟨u, hJ, q0, q1⟩, ⟨b0, b1, b2, b3, b4, b5⟩, h2, hX, hT, h6, s6, s7⟩ := h
  obtain ⟨a0, a1, a2, a3, a4, a5⟩ := sgI_B hJ.1 ⟨q0, q1⟩
  have a8 := hJ.2.1
  intro k
  match k with
  | 0 => show _ ≤ T ∧ T < _; omega
  | 1 => show _ ≤ c 0 ∧ c 0 < _; omega
  | 2 => show _ ≤ c 1 ∧ c 1 < _; omega
  | 3 => show _ ≤ c 2 ∧ c 2 < _; omega
  | 4 => show _ ≤ g 4 ∧ g 4 < _; omega
  | 5 => exact hX 5
  | 6 => exact hX 6
  | 7 => exact hX 7
  | 8 => show _ ≤ c 3 ∧ c 3 < _; omega
  | 9 => show _ ≤ c 4 ∧ c 4 < _; omega
  | 10 => show _ ≤ c 6 ∧ c 6 < _; omega
  | 11 => show _ ≤ c 5 ∧ c 5 < _; omega
  | 12 => show _ ≤ g 0 ∧ g 0 < _; omega
  | 13 => show _ ≤ g 1 ∧ g 1 < _; omega
  | 14 => show _ ≤ g 2 ∧ g 2 < _; omega
  | 15 => show _ ≤ g 5 ∧ g 5 < _; omega
  | 16 => show _ ≤ g 3 ∧ g 3 < _; omega
  | 17 => show _ ≤ g 2 - g 6 ∧ g 2 - g 6 < _; omega
  | 18 => show _ ≤ g 3 - g 7 ∧ g 3 - g 7 < _; omega
  | 19 => show _ ≤ g 8 ∧ g 8 < _; omega
  | 20 => show _ ≤ g 9 ∧ g 9 < _; omega
  | j + 21 => exact hX (j + 21)
def evK (t g : Nat → Int) : Int := if evS t g then 1 else if g 5 + 1 < g 4 then 3 else 4
def evT (t g : Nat → Int) : Int := if evS t g then t (g 9).toNat else g 1
theorem ev1_67 (t p g : Nat → Int) : ev1 t p g 6 = g 6 ∧ ev1 t p g 7 = g 7 ∧ g 2 ≤ ev1 t p g 2 ∧ g 3 ≤ ev1 t p g 3 ∧ ev1 t p g 4 = g 4 ∧ ev1 t p g 8 = g 8 := by
  unfold ev1
  split
  · exact ⟨rfl, rfl, Int.le_refl _, Int.le_refl _, rfl, rfl⟩
  · refine ⟨rfl, rfl, ?_, ?_, rfl, rfl⟩
    · show g 2 ≤ g 2 + 1; omega
    · show g 3 ≤ (if g 5 + 1 < g 4 then g 3 else g 3 + 1); split <;> omega
theorem mdI_ev {X : Nat → Int} {T : Int} {c g : Nat → Int} (h : mdI X T c g) (hK : keS (mt X) g ≤ 6300002) : mdI X (evT (mt X) g) c (ev1 (mt X) (mp X) g) ∧ keS (mt X) g < keS (mt X) (ev1 (mt X) (mp X) g) := by
  obtain ⟨⟨u, hJ, q0, q1⟩, h1, h2, hX, hT, h6, s6, s7⟩ := h
  obtain ⟨u', k1, k2, k3, k4, k5, k6, k7⟩ := ev1_J hJ q0 hK
  obtain ⟨e6, e7, e2, e3, -⟩ := ev1_67 (mt X) (mp X) g
  refine ⟨⟨⟨u', k1, by omega, k4⟩, h1, h2, hX, ?_, h6, by omega, by omega⟩, k5⟩
  unfold evT
  split
  · rename_i q
    have := k7 q
    omega
  · rename_i q
    have := k6 q
    omega
theorem mdI_ck {X : Nat → Int} {T : Int} {c g : Nat → Int} (h : mdI X T c g) (hK : c 4 ≤ 2100000) : mdI X (c 4) (tkZ c) g := by
  obtain ⟨hg, h1, h2, hX, hT, h6, s6, s7⟩ := h
  obtain ⟨k1, k2, k3⟩ := tkZ_inv h1
  have k0 := h1.2.2.2.2.1
  refine ⟨hg, k1, ⟨by omega, ?_⟩, hX, ⟨k0, hK⟩, ⟨k0, hK⟩, s6, s7⟩
  show 9 * (c 5 + 1) ≤ _
  omega
theorem keS_mod (t g : Nat → Int) : keS t g % 3 ≠ 1 := by
  unfold keS
  split
  · omega
  · split <;> omega
theorem gm_segTime {S : shp} {v : vl} {m : Nat} {x : Int32} {i : Nat} (hl : mdL S m) (hx : x.toInt = i) (hi : i < 80) : F_gm_segmentTime m x S v = some (rw v (m + 1) (23 + 2 * i)) := by
  have e2 : (J 2 * x).toInt = 2 * i := by rw [i_mul, hx, tJ] <;> (rw [hx, tJ]; omega)
  have e : (J 23 + J 2 * x).toInt = ((23 + 2 * i : Nat) : Int) := by
    rw [i_add, e2, tJ]
    · omega
    · rw [e2, tJ]; omega
    · rw [e2, tJ]; omega
  unfold F_gm_segmentTime
  rw [grd_true _ hl.1, hl.2.1]
  simp only [Option.bind_some]
  rw [grd_true _ hl.2.2.1, grd_true _ (vin_of hl.2.2.1 e (by omega))]
  simp only [clampT e, gi_x]
theorem gm_isSeg {S : shp} {v : vl} {m : Nat} {X : Nat → Int} {T L : Int} {c g : Nat → Int} (hl : mdL S m) (hw : rw v (m + 1) = iz (mk X T c g)) (hI : mdI X T c g) (hL : 0 ≤ L ∧ L ≤ 2100000) :
    F_gm_isSegmentNext m (J L) S v = some (if evS (mt X) g ∧ mt X (g 9).toNat ≤ L ∧ mt X (g 9).toNat ≤ c 4 then J 1 else J 0) := by
  have gg : ∀ k, (rw v (m + 1) k).toInt = mk X T c g k := fun k => by rw [hw]; exact zi_iz (mdI_rB hI) k
  obtain ⟨⟨u, hJ, q0, q1⟩, -⟩ := id hI
  obtain ⟨hI', b, -⟩ := id hJ
  have tL : (J L).toInt = L := J_toInt (by omega) (by omega)
  have g20 : (rw v (m + 1) 20).toInt = g 9 := gg 20
  have g19 : (rw v (m + 1) 19).toInt = g 8 := gg 19
  have g9 : (rw v (m + 1) 9).toInt = c 4 := gg 9
  have g13 : (rw v (m + 1) 13).toInt = g 1 := gg 13
  have e9 : (((g 9).toNat : Nat) : Int) = g 9 := by omega
  have gt : (rw v (m + 1) (23 + 2 * (g 9).toNat)).toInt = mt X (g 9).toNat := by
    rw [gg]
    show mk X T c g (23 + 2 * (g 9).toNat) = X (23 + 2 * (g 9).toNat)
    rw [show 23 + 2 * (g 9).toNat = (2 + 2 * (g 9).toNat) + 21 by omega]
    rfl
  unfold F_gm_isSegmentNext
  rw [grd_true _ hl.1, hl.2.1]
  simp only [Option.bind_some]
  rw [grd_true _ hl.2.2.1]
  simp only [gi_x]
  by_cases h1 : g 9 = g 8
  · rw [if_pos (i_eq.mpr (by rw [g20, g19]; exact h1)), if_neg (fun q => by have := q.1.1; omega)]
  · rw [if_neg (fun q => h1 (by have := i_eq.mp q; rw [g20, g19] at this; exact this)), gm_segTime hl (by rw [g20]; exact e9.symm) (by omega)]
    simp only [Option.bind_some]
    by_cases h2 : L < mt X (g 9).toNat
    · rw [if_pos (i_lt.mpr (by rw [tL, gt]; exact h2)), if_neg (fun q => by have := q.2.1; omega)]
    · rw [if_neg (fun q => h2 (by have := i_lt.mp q; rw [tL, gt] at this; exact this))]
      by_cases h3 : c 4 < mt X (g 9).toNat
      · rw [if_pos (i_lt.mpr (by rw [g9, gt]; exact h3)), if_neg (fun q => by have := q.2.2; omega)]
      · rw [if_neg (fun q => h3 (by have := i_lt.mp q; rw [g9, gt] at this; exact this))]
        by_cases h4 : g 1 = -1
        · rw [if_pos (i_eq.mpr (by rw [g13, tJ]; exact h4)), if_pos ⟨⟨by omega, Or.inl h4⟩, by omega, by omega⟩]
        · rw [if_neg (fun q => h4 (by have := i_eq.mp q; rw [g13, tJ] at this; exact this))]
          by_cases h5 : g 1 < mt X (g 9).toNat
          · rw [if_pos (i_lt.mpr (by rw [g13, gt]; exact h5)), if_neg (fun q => by have := q.1.2; omega)]
          · rw [if_neg (fun q => h5 (by have := i_lt.mp q; rw [g13, gt] at this; exact this)), if_pos ⟨⟨by omega, Or.inr (by omega)⟩, by omega, by omega⟩]
theorem gm_segComes {S : shp} {v : vl} {m : Nat} {X : Nat → Int} {T : Int} {c g : Nat → Int} (hl : mdL S m) (hw : rw v (m + 1) = iz (mk X T c g)) (hI : mdI X T c g) (hs : g 9 < g 8) :
    F_gm_segmentComes m S v = some (wr v (m + 1) (iz (mk X (mt X (g 9).toNat) c (smZ (mt X) (mp X) g)))) := by
  have gg : ∀ k, (rw v (m + 1) k).toInt = mk X T c g k := fun k => by rw [hw]; exact zi_iz (mdI_rB hI) k
  obtain ⟨⟨u, hJ, q0, q1⟩, -⟩ := id hI
  obtain ⟨hI', b, cc, -⟩ := id hJ
  have e9 : (((g 9).toNat : Nat) : Int) = g 9 := by omega
  obtain ⟨c1, c2, -⟩ := cc (g 9).toNat (by omega)
  have g20 : (rw v (m + 1) 20).toInt = g 9 := gg 20
  have gt : (rw v (m + 1) (23 + 2 * (g 9).toNat)).toInt = mt X (g 9).toNat := by
    rw [gg]
    show mk X T c g (23 + 2 * (g 9).toNat) = X (23 + 2 * (g 9).toNat)
    rw [show 23 + 2 * (g 9).toNat = (2 + 2 * (g 9).toNat) + 21 by omega]
    rfl
  have gp : (rw v (m + 1) (24 + 2 * (g 9).toNat)).toInt = mp X (g 9).toNat := by
    rw [gg]
    show mk X T c g (24 + 2 * (g 9).toNat) = X (24 + 2 * (g 9).toNat)
    rw [show 24 + 2 * (g 9).toNat = (3 + 2 * (g 9).toNat) + 21 by omega]
    rfl
  have i2 : (J 2 * rw v (m + 1) 20).toInt = 2 * g 9 := by rw [i_mul, g20, tJ] <;> (rw [g20, tJ]; omega)
  have i3 : (J 23 + J 2 * rw v (m + 1) 20).toInt = 23 + 2 * g 9 := by
    rw [i_add, i2, tJ]
    · rw [i2, tJ]; omega
    · rw [i2, tJ]; omega
  have i4 : (J 23 + J 2 * rw v (m + 1) 20 + J 1).toInt = ((24 + 2 * (g 9).toNat : Nat) : Int) := by
    rw [i_add, i3, tJ]
    · omega
    · rw [i3, tJ]; omega
    · rw [i3, tJ]; omega
  have z20 : ∀ x, up (rw v (m + 1)) 0 x 20 = rw v (m + 1) 20 := fun x => rfl
  have zP : ∀ x, up (rw v (m + 1)) 0 x (24 + 2 * (g 9).toNat) = rw v (m + 1) (24 + 2 * (g 9).toNat) := fun x => up_ne (by omega)
  unfold F_gm_segmentComes
  rw [grd_true _ hl.1, hl.2.1]
  simp only [Option.bind_some]
  rw [grd_true _ hl.2.2.1]
  simp only [gi_x]
  rw [gm_segTime hl (by rw [g20]; exact e9.symm) (by omega)]
  simp only [Option.bind_some, lt_def, si_wr, wr_wr, rw_wr, gi_x, z20]
  rw [grd_true _ (vin_of hl.2.2.1 i4 (by omega)), clampT i4]
  simp only [zP]
  let R0 := up (up (rw v (m + 1)) 0 (rw v (m + 1) (23 + 2 * (g 9).toNat))) 12 (rw v (m + 1) (24 + 2 * (g 9).toNat))
  have r12 : R0 12 = rw v (m + 1) (24 + 2 * (g 9).toNat) := rfl
  have hcond : (R0 12 = J 0) ↔ mp X (g 9).toNat = 0 := by rw [r12, i_eq, gp, tJ]
  have e20 : (rw v (m + 1) 20 + J 1).toInt = g 9 + 1 := by rw [i_add, g20, tJ] <;> (rw [g20, tJ]; omega)
  by_cases h : mp X (g 9).toNat = 0
  · have hq : R0 12 = J 0 := hcond.mpr h
    show (if R0 12 = J 0 then _ else _) = _
    rw [if_pos hq]
    refine congrArg (fun f => some (wr v (m + 1) f)) (row_ext fun k => ?_)
    unfold up
    match k with
    | 0 => exact gt
    | 1 => exact gg 1
    | 2 => exact gg 2
    | 3 => exact gg 3
    | 4 => exact gg 4
    | 5 => exact gg 5
    | 6 => exact gg 6
    | 7 => exact gg 7
    | 8 => exact gg 8
    | 9 => exact gg 9
    | 10 => exact gg 10
    | 11 => exact gg 11
    | 12 => exact gp
    | 13 => show (J (-1)).toInt = if 0 < mp X (g 9).toNat then _ else -1; rw [if_neg (by omega)]; exact tJ
    | 14 => exact gg 14
    | 15 => exact gg 15
    | 16 => exact gg 16
    | 17 => exact gg 17
    | 18 => exact gg 18
    | 19 => exact gg 19
    | 20 => exact e20
    | j + 21 => exact gg (j + 21)
  · have hq : ¬ R0 12 = J 0 := fun q => h (hcond.mp q)
    show (if R0 12 = J 0 then _ else _) = _
    rw [if_neg hq]
    refine congrArg (fun f => some (wr v (m + 1) f)) (row_ext fun k => ?_)
    unfold up
    match k with
    | 0 => exact gt
    | 1 => exact gg 1
    | 2 => exact gg 2
    | 3 => exact gg 3
    | 4 => exact gg 4
    | 5 => exact gg 5
    | 6 => exact gg 6
    | 7 => exact gg 7
    | 8 => exact gg 8
    | 9 => exact gg 9
    | 10 => exact gg 10
    | 11 => exact gg 11
    | 12 => exact gp
    | 13 =>
      show (rw v (m + 1) (23 + 2 * (g 9).toNat) + rw v (m + 1) (24 + 2 * (g 9).toNat)).toInt = if 0 < mp X (g 9).toNat then mt X (g 9).toNat + mp X (g 9).toNat else -1
      rw [if_pos (by omega), i_add, gt, gp]
      · rw [gt, gp]; omega
      · rw [gt, gp]; omega
    | 14 => exact gg 14
    | 15 => exact gg 15
    | 16 => exact gg 16
    | 17 => exact gg 17
    | 18 => exact gg 18
    | 19 => exact gg 19
    | 20 => exact e20
    | j + 21 => exact gg (j + 21)
theorem gm_comes0 {S : shp} {v : vl} {m : Nat} {X : Nat → Int} {T L : Int} {c g : Nat → Int} (hl : mdL S m) (hw : rw v (m + 1) = iz (mk X T c g)) (hI : mdI X T c g) (hL : 0 ≤ L ∧ L ≤ 2100000) (hs : 3 * L + 2 < keS (mt X) g) (hc : L < c 4) :
    F_gm_comes m (J L) S v = some (J 0, v) := by
  have gg : ∀ k, (rw v (m + 1) k).toInt = mk X T c g k := fun k => by rw [hw]; exact zi_iz (mdI_rB hI) k
  have tL : (J L).toInt = L := J_toInt (by omega) (by omega)
  have g9 : (rw v (m + 1) 9).toInt = c 4 := gg 9
  have g13 : (rw v (m + 1) 13).toInt = g 1 := gg 13
  have n1 : ¬ (evS (mt X) g ∧ mt X (g 9).toNat ≤ L ∧ mt X (g 9).toNat ≤ c 4) := by
    rintro ⟨q1, q2, q3⟩
    unfold keS at hs
    rw [if_pos q1] at hs
    omega
  unfold F_gm_comes
  rw [grd_true _ hl.1, gm_isSeg hl hw hI hL, if_neg n1]
  simp only [Option.bind_some, if_true]
  rw [hl.2.1]
  simp only [Option.bind_some]
  rw [grd_true _ hl.2.2.1]
  simp only [gi_x]
  have k46 : K_gm_comes_46 S v m (J L) = some (J 0, v) := by
    unfold K_gm_comes_46
    rw [grd_true _ hl.1, hl.2.1]
    simp only [Option.bind_some]
    rw [grd_true _ hl.2.2.1]
    unfold K_gm_comes_69
    rw [if_pos (i_lt.mpr (by rw [tL, gi_rw, g9]; exact hc))]
  by_cases h1 : g 1 = -1
  · rw [if_pos (i_eq.mpr (by rw [g13, tJ]; exact h1))]
    exact k46
  · rw [if_neg (fun q => h1 (by have := i_eq.mp q; rw [g13, tJ] at this; exact this))]
    by_cases h2 : g 1 < c 4
    · rw [if_pos (i_lt.mpr (by rw [g13, g9]; exact h2))]
      unfold K_gm_comes_69
      have h3 : L < g 1 := by
        unfold keS at hs
        split at hs
        · rename_i q
          have := q.2
          by_cases z : mt X (g 9).toNat ≤ L
          · exact absurd ⟨q, z, by omega⟩ n1
          · omega
        · omega
      rw [if_pos (i_lt.mpr (by rw [tL, g13]; exact h3))]
    · rw [if_neg (fun q => h2 (by have := i_lt.mp q; rw [g13, g9] at this; exact this))]
      exact k46
theorem gm_comesC {S : shp} {v : vl} {m : Nat} {X : Nat → Int} {T L : Int} {c g : Nat → Int} (hl : mdL S m) (hw : rw v (m + 1) = iz (mk X T c g)) (hI : mdI X T c g) (hL : 0 ≤ L ∧ L ≤ 2100000) (hs : 3 * c 4 + 1 < keS (mt X) g) (hc : c 4 ≤ L) :
    F_gm_comes m (J L) S v = some (J 2, wr v (m + 1) (iz (mk X (c 4) (tkZ c) g))) := by
  have gg : ∀ k, (rw v (m + 1) k).toInt = mk X T c g k := fun k => by rw [hw]; exact zi_iz (mdI_rB hI) k
  have tL : (J L).toInt = L := J_toInt (by omega) (by omega)
  have g9 : (rw v (m + 1) 9).toInt = c 4 := gg 9
  have g13 : (rw v (m + 1) 13).toInt = g 1 := gg 13
  have n1 : ¬ (evS (mt X) g ∧ mt X (g 9).toNat ≤ L ∧ mt X (g 9).toNat ≤ c 4) := by
    rintro ⟨q1, q2, q3⟩
    unfold keS at hs
    rw [if_pos q1] at hs
    omega
  unfold F_gm_comes
  rw [grd_true _ hl.1, gm_isSeg hl hw hI hL, if_neg n1]
  simp only [Option.bind_some, if_true]
  rw [hl.2.1]
  simp only [Option.bind_some]
  rw [grd_true _ hl.2.2.1]
  simp only [gi_x]
  have k46 : K_gm_comes_46 S v m (J L) = some (J 2, wr v (m + 1) (iz (mk X (c 4) (tkZ c) g))) := by
    unfold K_gm_comes_46
    rw [grd_true _ hl.1, hl.2.1]
    simp only [Option.bind_some]
    rw [grd_true _ hl.2.2.1]
    unfold K_gm_comes_69
    rw [if_neg (fun q => by have := i_lt.mp q; rw [tL, gi_rw, g9] at this; omega), if_pos rfl, grd_true _ hl.1, gm_clockComes hl hw (mdI_rB hI) (mdI_ckB hI)]
    rfl
  by_cases h1 : g 1 = -1
  · rw [if_pos (i_eq.mpr (by rw [g13, tJ]; exact h1))]
    exact k46
  · rw [if_neg (fun q => h1 (by have := i_eq.mp q; rw [g13, tJ] at this; exact this))]
    by_cases h2 : g 1 < c 4
    · exfalso
      unfold keS at hs
      split at hs
      · rename_i q
        have := q.2
        omega
      · omega
    · rw [if_neg (fun q => h2 (by have := i_lt.mp q; rw [g13, g9] at this; exact this))]
      exact k46
theorem gm_comesS {S : shp} {v : vl} {m : Nat} {X : Nat → Int} {T L : Int} {c g : Nat → Int} (hl : mdL S m) (hw : rw v (m + 1) = iz (mk X T c g)) (hI : mdI X T c g) (hL : 0 ≤ L ∧ L ≤ 2100000) (hs : keS (mt X) g ≤ 3 * L + 2) (hc : keS (mt X) g < 3 * c 4 + 1) :
    F_gm_comes m (J L) S v = some (J (evK (mt X) g), wr v (m + 1) (iz (mk X (evT (mt X) g) c (ev1 (mt X) (mp X) g)))) := by
  have gg : ∀ k, (rw v (m + 1) k).toInt = mk X T c g k := fun k => by rw [hw]; exact zi_iz (mdI_rB hI) k
  have tL : (J L).toInt = L := J_toInt (by omega) (by omega)
  have g9 : (rw v (m + 1) 9).toInt = c 4 := gg 9
  have g13 : (rw v (m + 1) 13).toInt = g 1 := gg 13
  unfold F_gm_comes
  rw [grd_true _ hl.1, gm_isSeg hl hw hI hL]
  by_cases h : evS (mt X) g
  · have hk : keS (mt X) g = 3 * mt X (g 9).toNat := by unfold keS; rw [if_pos h]
    have n0 : ¬ J 1 = J 0 := by decide
    rw [if_pos ⟨h, by omega, by omega⟩]
    simp only [Option.bind_some, n0, if_false]
    rw [gm_segComes hl hw hI h.1]
    unfold evK evT ev1
    rw [if_pos h, if_pos h, if_pos h]
    rfl
  · have h1 : ¬ g 1 = -1 := fun z => by unfold keS at hs; rw [if_neg h, if_pos z] at hs; omega
    have hk : keS (mt X) g = 3 * g 1 + 2 := by unfold keS; rw [if_neg h, if_neg h1]
    rw [if_neg (fun q => h q.1)]
    simp only [Option.bind_some, if_true]
    rw [hl.2.1]
    simp only [Option.bind_some]
    rw [grd_true _ hl.2.2.1]
    simp only [gi_x]
    rw [if_neg (fun q => h1 (by have := i_eq.mp q; rw [g13, tJ] at this; exact this)), if_pos (i_lt.mpr (by rw [g13, g9]; omega))]
    unfold K_gm_comes_69
    have n1 : ¬ J 1 = J 0 := by decide
    obtain ⟨⟨u, hJ, q0, q1⟩, -, -, -, -, -, s6, s7⟩ := id hI
    have hB := mdI_sgB hI
    obtain ⟨-, -, b2, b3, -⟩ := id hB
    rw [if_neg (fun q => by have := i_lt.mp q; rw [tL, g13] at this; omega), if_neg n1, grd_true _ hl.1, gm_edgeComes hl hw (mdI_rB hI) hB ⟨by omega, by omega⟩]
    simp only [Option.bind_some]
    unfold evK evT ev1
    rw [if_neg h, if_neg h, if_neg h]
    by_cases h5 : g 5 + 1 < g 4
    · rw [if_pos h5, if_pos h5, if_pos rfl]
    · rw [if_neg h5, if_neg h5, if_neg n1]
end COMES
