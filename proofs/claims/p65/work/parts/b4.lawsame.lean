/-! The law compares: all is the same; a measurement was made so. -/
section LAWSAME
/-- the law's settings beside its clock and signal -/
def lwJ (S : shp) (v : vl) (o : Nat) (X : Nat → Int) (h c g : Nat → Int) : Prop := lwL S o ∧ lwR v o X (h 0) c g ∧ (rw v o 10 = J (h 1) ∧ rw v o 11 = J (h 2) ∧ rw v o 12 = J (h 3))
/-- no float that the law compares is undefined -/
def flC : Prop := ∀ x n : Int32, n ≠ 0 → Op.cmpValue (FP.fcmp (FP.fdiv (FP.i2f x) (FP.i2f n)) (FP.fdiv (FP.i2f x) (FP.i2f n))) .l = J 0
theorem fc_0 : Op.cmpValue (FP.fcmp FP.fconst0 FP.fconst0) .l = J 0 := by decide +kernel
variable {S : shp} {v : vl} {a o N q : Nat} {h c g t p X : Nat → Int} {M : Nat → Nat → Int} {sv : Option sta} {ps : List sta} {re ca ch : Int}
theorem gc_reason1 (hR : cR S v a (h, c, g, t, p, M) sv ps re ca ch q) : F_gc_reason a S v = some (J re) := by
  obtain ⟨k0, -⟩ := cR_now hR
  obtain ⟨-, -, -, -, r2, r3, r4⟩ := hR
  unfold F_gc_reason
  rw [grd_true _ k0, gi_rw, r2]
theorem stV_I (hs : stV h c g (mt X) (mp X) M) (rX : rB X) : mdI X (h 0) c g := by
  obtain ⟨⟨v0, -⟩, ⟨c1, c2, c3⟩, ⟨s1, s6, s7⟩, -, -, -⟩ := hs
  exact ⟨s1, c1, c2, rX, ⟨v0.1, by omega⟩, c3, s6, s7⟩
theorem bx_q {α β : Type} {F : Option (Nat ⊕ β)} {x : β} {thr : Nat → Option α} {f : β → Option α} (hF : F = some (.inr x)) : bx F thr f = f x := by rw [hF]; rfl
theorem lw_same (hF : flO) (hC : flC) (hR : cR S v a (h, c, g, mt X, mp X, M) sv ps re ca ch q) (hJ : lwJ S v o X h c g) (rX : rB X) (hau : auI g = J 1) : F_lw_isSame o a S v = some (J 1) := by
  obtain ⟨hl, ⟨⟨⟨n0, n1, n4, n5, n6, n7, n8, n9⟩, n13, n14, n15, n18, n19⟩, hS, hD, hP⟩, -⟩ := hJ
  have hs := cR_V hR
  have hI := stV_I hs rX
  obtain ⟨b1, b2, b3, b4, b6⟩ := z_B hI
  have b5 := c5_B hI
  obtain ⟨k0, -⟩ := cR_now hR
  have q0 : F_gc_count a (J 0) S v = some (.inr (J (h 0))) := gc_count (w := 0) hR (by decide)
  have q1 : F_gc_count a (J 1) S v = some (.inr (J (c 5))) := gc_count (w := 1) hR (by decide)
  have q2 : F_gc_count a (J 2) S v = some (.inr (J (g 2))) := gc_count (w := 2) hR (by decide)
  have q3 : F_gc_count a (J 3) S v = some (.inr (J (g 3))) := gc_count (w := 3) hR (by decide)
  have q5 : F_gc_count a (J 5) S v = some (.inr (J (g 9))) := gc_count (w := 5) hR (by decide)
  have s0 : F_gc_state a (J 0) S v = some (.inr (J (c 4))) := gc_state (w := 0) hR (by decide)
  have s2 : F_gc_state a (J 2) S v = some (.inr (J (g 0))) := gc_state (w := 2) hR (by decide)
  have s3 : F_gc_state a (J 3) S v = some (.inr (J (g 1))) := gc_state (w := 3) hR (by decide)
  have s4 : F_gc_state a (J 4) S v = some (.inr (J (g 5))) := gc_state (w := 4) hR (by decide)
  have s5 : F_gc_state a (J 5) S v = some (.inr (J (nsZ (mt X) g))) := gc_state (w := 5) hR (by decide)
  have e1 : F_gc_setting a (J 1) S v = some (.inr (J (c 1))) := gc_setting (w := 1) hR (by decide)
  have e3 : F_gc_setting a (J 3) S v = some (.inr (J (g 4))) := gc_setting (w := 3) hR (by decide)
  have g4 : gi v o 4 = J (h 0) := n4
  have g5 : gi v o 5 = J (c 5) := n5
  have g6 : gi v o 6 = J (g 2) := n6
  have g7 : gi v o 7 = J (g 3) := n7
  have g8 : gi v o 8 = J (g 5) := n8
  have g9 : gi v o 9 = J (g 4) := n9
  have g13 : gi v o 13 = J (c 1) := n13
  have g15 : gi v o 15 = J (g 9) := n15
  have g18 : gi v o 18 = J (g 0) := n18
  have g19 : gi v o 19 = J (c 6) := n19
  have g1 : gi v o 1 = J (g 8) := n1
  have k157 : K_lw_isSame_157 S v o a (J (nsZ (mt X) g)) (J (nsZ (mt X) g)) = some (J 1) := by
    unfold K_lw_isSame_157
    rw [if_pos rfl, grd_true _ k0, bx_q e1, grd_true _ hl.1, g13, if_pos rfl, bx_q e3, g9, if_pos rfl, gc_tickShare hF hR]
    simp only [Option.bind_some]
    unfold tsE
    rw [g5]
    by_cases y : c 5 = 0
    · rw [if_pos y, if_pos (by rw [y]), if_pos fc_0]
    · have ne : J (c 5) ≠ 0 := fun z => by have := (J_eq (x := c 5) (y := 0) (by omega) (by decide)).mp z; omega
      rw [if_neg y, if_neg (show ¬ J (c 5) = J 0 from ne), g19, grd_true _ (hF.2.1 _ _ ne).1]
      simp only [lt_def]
      rw [if_pos (hC _ _ ne)]
  have k113 : K_lw_isSame_113 S v o a (J (g 1)) (J (g 1)) = some (J 1) := by
    unfold K_lw_isSame_113
    rw [if_pos rfl, grd_true _ k0, bx_q s4, grd_true _ hl.1, g8, if_pos rfl, bx_q s5, g15, g1]
    by_cases y : g 9 < g 8
    · have h4 := hP.1
      have t9 : (J (g 9)).toInt = ((g 9).toNat : Nat) := by rw [J_toInt (by omega) (by omega)]; omega
      rw [if_pos ((J_lt (by omega) (by omega)).mpr y), hl.2.1]
      simp only [Option.bind_some]
      rw [grd_true _ hl.2.2.1, grd_true _ (vin_of hl.2.2.1 t9 (by omega)), clampT t9, gi_rw, (hP.2 _ (by omega)).1]
      have e : nsZ (mt X) g = mt X (g 9).toNat := if_pos y
      rw [e] at k157 ⊢
      exact k157
    · have e : nsZ (mt X) g = -1 := if_neg y
      rw [if_neg (fun z => y ((J_lt (by omega) (by omega)).mp z))]
      rw [e] at k157 ⊢
      exact k157
  unfold F_lw_isSame
  rw [grd_true _ k0, bx_q q0, grd_true _ hl.1, g4, if_pos rfl, bx_q q1, g5, if_pos rfl, bx_q q2, g6, if_pos rfl, bx_q q3, g7, if_pos rfl, bx_q q5, g15, if_pos rfl, gc_addsUp hR]
  simp only [Option.bind_some]
  rw [hau, if_neg (by decide), bx_q s0, lw_nextClock hl n0 n5 hD hI]
  simp only [Option.bind_some, if_true]
  rw [bx_q s2, g18, if_pos rfl, bx_q s3]
  by_cases y : g 0 = 0
  · rw [if_pos (by rw [y])]
    have e : g 1 = -1 := b6.mp y
    rw [e] at k113 ⊢
    exact k113
  · rw [if_neg (fun z => y ((J_inj (by omega) (by decide)).mp z)), lw_nextEdge hl n18 hS b4, show zE g = g 1 from if_neg y]
    exact k113
/-- digits as the law has them -/
theorem dg_law {z : Int} (hz : 0 ≤ z ∧ z ≤ 999) : dgZ z = if 99 < z then 3 else if 9 < z then 2 else if 0 < z then 1 else 0 := by
  have s : ∀ (n : Nat) (z : Int), dgF (n + 1) z = if 0 < z then dgF n (z / 10) + 1 else 0 := fun _ _ => rfl
  have s0 : ∀ n : Nat, dgF n 0 = 0 := fun n => by cases n <;> rfl
  unfold dgZ
  by_cases h3 : 99 < z
  · rw [if_pos h3, s, if_pos (by omega), s, if_pos (by omega), s, if_pos (by omega), show z / 10 / 10 / 10 = 0 by omega, s0]
    rfl
  · rw [if_neg h3]
    by_cases h2 : 9 < z
    · rw [if_pos h2, s, if_pos (by omega), s, if_pos (by omega), show z / 10 / 10 = 0 by omega, s0]
      rfl
    · rw [if_neg h2]
      by_cases h1 : 0 < z
      · rw [if_pos h1, s, if_pos h1, show z / 10 = 0 by omega, s0]
        rfl
      · rw [if_neg h1, show z = 0 by omega, s0]
theorem lw_made (hN : 100 ≤ N) (hR : cR S v a (h, c, g, t, p, M) sv ps 0 ca ch q) (hl : lwL S o) {z : Nat → Int} (h5 : 1 ≤ h 5 ∧ h 5 ≤ 20) (hz : M (h 5 - 1).toNat = z) (hV : msV z) (hv : F_lw_value o (J (z 0)) S v = some (J (z 4))) (r21 : rw v o 21 = J (z 1)) (r22 : rw v o 22 = J (z 2)) (r23 : rw v o 23 = J (z 3)) (rs : (if z 0 = 0 then rw v o 10 else rw v o 11) = J (z 5)) (r12 : rw v o 12 = J (z 6)) :
    F_lw_isMade N o a (J (z 0)) (J (z 4)) S v = some (J 1) := by
  obtain ⟨k0, -⟩ := cR_now hR
  have q7 : F_gc_count a (J 7) S v = some (.inr (J (h 5))) := gc_count (w := 7) hR (by decide)
  have mm : ∀ w : Int, 0 ≤ w ∧ w ≤ 7 → F_gc_measurement N a (J (h 5 - 1)) (J w) S v = some (.inr (J (mN z w))) := fun w hw => by
    rw [gc_measurement hN hR (by omega) (by omega)]
    unfold measO
    rw [if_pos ⟨by omega, by omega⟩, if_pos hw, hz]
    rfl
  have m0 : F_gc_measurement N a (J (h 5 - 1)) (J 0) S v = some (.inr (J (z 0))) := mm 0 (by decide)
  have m1 : F_gc_measurement N a (J (h 5 - 1)) (J 1) S v = some (.inr (J (z 1))) := mm 1 (by decide)
  have m2 : F_gc_measurement N a (J (h 5 - 1)) (J 2) S v = some (.inr (J (z 2))) := mm 2 (by decide)
  have m3 : F_gc_measurement N a (J (h 5 - 1)) (J 3) S v = some (.inr (J (z 3))) := mm 3 (by decide)
  have m4 : F_gc_measurement N a (J (h 5 - 1)) (J 4) S v = some (.inr (J (z 4))) := mm 4 (by decide)
  have m5 : F_gc_measurement N a (J (h 5 - 1)) (J 5) S v = some (.inr (J (dgZ (z 3)))) := mm 5 (by decide)
  have m6 : F_gc_measurement N a (J (h 5 - 1)) (J 6) S v = some (.inr (J (z 5))) := mm 6 (by decide)
  have m7 : F_gc_measurement N a (J (h 5 - 1)) (J 7) S v = some (.inr (J (z 6))) := mm 7 (by decide)
  obtain ⟨v0, v1, v2, v3, v4, v5, v6, v7⟩ := hV
  have g10 : gi v o 10 = rw v o 10 := rfl
  have g11 : gi v o 11 = rw v o 11 := rfl
  have g12 : gi v o 12 = J (z 6) := r12
  have g21 : gi v o 21 = J (z 1) := r21
  have g22 : gi v o 22 = J (z 2) := r22
  have g23 : gi v o 23 = J (z 3) := r23
  have k178 : K_lw_isMade_178 N S v o a (J (h 5 - 1)) (J (z 5)) (J (z 5)) = some (J 1) := by
    unfold K_lw_isMade_178
    rw [if_pos rfl, grd_true _ k0, bx_q m7, grd_true _ hl.1, g12, if_pos rfl, gc_reason1 hR]
    simp only [Option.bind_some, if_true]
  have k155 : K_lw_isMade_155 N S v o a (J (z 0)) (J (h 5 - 1)) = some (J 1) := by
    unfold K_lw_isMade_155
    rw [grd_true _ k0, bx_q m6]
    by_cases y : z 0 = 0
    · rw [if_pos y] at rs
      rw [if_pos (by rw [y]), grd_true _ hl.1, g10, rs]
      exact k178
    · rw [if_neg y] at rs
      rw [if_neg (fun q => y ((J_inj (by omega) (by decide)).mp q)), grd_true _ hl.1, g11, rs]
      exact k178
  have k62 : ∀ d : Int32, (d = J 4 ∨ d = J (dgZ (z 3))) → K_lw_isMade_62 N S v o a (J (z 0)) (J (z 4)) (J (h 5 - 1)) d = some (J 1) := by
    intro d hd
    unfold K_lw_isMade_62
    rw [grd_true _ hl.1, hv]
    simp only [Option.bind_some, if_true]
    rw [grd_true _ k0, bx_q m0, if_pos rfl, bx_q m1, g21, if_pos rfl, bx_q m2, g22, if_pos rfl, bx_q m3, g23, if_pos rfl, bx_q m4, if_pos rfl]
    by_cases y : d = J 4
    · rw [if_pos y]
      exact k155
    · rw [if_neg y, bx_q m5, if_pos (hd.resolve_left y).symm]
      exact k155
  unfold F_lw_isMade
  rw [grd_true _ k0, bx_q q7, grd_true _ hl.1, g23, show J (h 5) - J 1 = J (h 5 - 1) by rw [J_sub]]
  by_cases y3 : 999 < z 3
  · rw [if_pos ((J_lt (by decide) (by omega)).mpr y3)]
    exact k62 _ (Or.inl rfl)
  · have dl := dg_law (z := z 3) (by omega)
    rw [if_neg (fun q => y3 ((J_lt (by decide) (by omega)).mp q))]
    by_cases y2 : 99 < z 3
    · rw [if_pos ((J_lt (by decide) (by omega)).mpr y2)]
      exact k62 _ (Or.inr (by rw [dl, if_pos y2]))
    · rw [if_neg (fun q => y2 ((J_lt (by decide) (by omega)).mp q))]
      by_cases y1 : 9 < z 3
      · rw [if_pos ((J_lt (by decide) (by omega)).mpr y1)]
        exact k62 _ (Or.inr (by rw [dl, if_neg y2, if_pos y1]))
      · rw [if_neg (fun q => y1 ((J_lt (by decide) (by omega)).mp q))]
        by_cases y0 : 0 < z 3
        · rw [if_pos ((J_lt (by decide) (by omega)).mpr y0)]
          exact k62 _ (Or.inr (by rw [dl, if_neg y2, if_neg y1, if_pos y0]))
        · rw [if_neg (fun q => y0 ((J_lt (by decide) (by omega)).mp q))]
          exact k62 _ (Or.inr (by rw [dl, if_neg y2, if_neg y1, if_neg y0]))
/-- the value, as the law has it -/
theorem lw_val35 {n k st P ou : Int} (hl : lwL S o) (r0 : rw v o 0 = J st) (r9 : rw v o 9 = J P) (r12 : rw v o 12 = J k) (hs : 10 ≤ st ∧ st ≤ 999) (hP : 1 ≤ P ∧ P ≤ 16) (ho : 0 ≤ ou ∧ ou ≤ 2100000) (hn : 1 ≤ n ∧ n ≤ 2100000) (hk : -99 ≤ k ∧ k ≤ 99) :
    K_lw_value_35 S v o (Int32.toInt64 (J ou)) (Int32.toInt64 (J n)) = some (J (valZ ou n st k P)) := by
  obtain ⟨⟨a1, a2⟩, ⟨a3, a4⟩, a5, a6⟩ := val_prod hn hs hk ho hP
  have hY := val_by hn hs hk
  unfold K_lw_value_35
  rw [grd_true _ hl.1]
  simp only [gi_x, lt_def]
  rw [r0, r9, r12]
  rw [grd_true _ (fun q => by
    have t0 : (0 : Int64).toInt = 0 := by decide
    rw [q, t0] at hY
    omega), val_of (val_op ho hP) hY hn hs hk ho hP]
end LAWSAME
