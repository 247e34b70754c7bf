/-! What comes next, in the law. -/
section LAWCOMES
/-- behind the choice of the least time -/
noncomputable def lwNext (o : Nat) (x6 : Int32) (S : shp) (v : vl) : Option (Int32 × vl) :=
  lt (si v o 4 x6) fun w7 => (F_lw_nextSegment o S w7).bind fun x8 => (if x8 = x6 then lt (si (si w7 o 16 x6) o 17 (J 0)) fun w9 => (gr S o 3).bind fun r10 => grd (kin S r10 = some (1, 4)) <| grd (vp_in (gi w9 o 15) (alen S r10)) <| lt (si w9 o 18 (gi w9 r10 (Int32.toNatClampNeg (gi w9 o 15)))) fun w14 => lt (si w14 o 15 ((gi w14 o 15) + (J 1))) fun w15 => some (((J 1), w15)) else (F_lw_nextClock o S w7).bind fun x16 => (if x16 = x6 then lt (si w7 o 5 ((gi w7 o 5) + (J 1))) fun w17 => (if ((gi w17 o 5) - (gi w17 o 5) / (J 100) * (J 100)) = (J 0) then (F_ma_min (J 99) ((gi w17 o 13) + (gi w17 o 14)) S w17).bind fun x18 => (F_ma_max (J (-99)) x18 S w17).bind fun x19 => lt (si w17 o 13 x19) fun w20 => lt (si (sl w20 o 20 ((gl w20 o 20) + (Int32.toInt64 (gi w20 o 13)))) o 19 x6) fun w21 => some (((J 2), w21)) else lt (si (sl w17 o 20 ((gl w17 o 20) + (Int32.toInt64 (gi w17 o 13)))) o 19 x6) fun w22 => some (((J 2), w22))) else lt (si w7 o 17 ((gi w7 o 17) + (J 1))) fun w23 => lt (si w23 o 6 ((gi w23 o 6) + (J 1))) fun w24 => lt (si w24 o 8 ((gi w24 o 8) + (J 1))) fun w25 => (if (gi w25 o 8) < (gi w25 o 9) then some (((J 3), w25)) else lt (si w25 o 8 (J 0)) fun w26 => lt (si w26 o 7 ((gi w26 o 7) + (J 1))) fun w27 => some (((J 4), w27)))))
variable {S : shp} {v : vl} {o N : Nat} {X : Nat → Int} {T L : Int} {c g : Nat → Int}
theorem lw_comes_eq (hl : lwL S o) (hR : lwR v o X T c g) (hI : mdI X T c g) (hL : 0 ≤ L ∧ L ≤ 2100000) : F_lw_comes o (J L) S v = if L < min3 (zS X g) (c 4) (zE g) then some (J 0, v) else lwNext o (J (min3 (zS X g) (c 4) (zE g))) S v := by
  obtain ⟨⟨⟨n0, n1, n4, n5, n6, n7, n8, n9⟩, n13, n14, n15, n18, n19⟩, hS, hD, hP⟩ := id hR
  obtain ⟨b1, b2, b3, b4, -⟩ := z_B hI
  have b5 := c5_B hI
  have bm : 0 ≤ min3 (zS X g) (c 4) (zE g) ∧ min3 (zS X g) (c 4) (zE g) ≤ 9999999 := by unfold min3; split <;> split <;> omega
  have e1 : F_lw_comes o (J L) S v = (if J L < J (min3 (zS X g) (c 4) (zE g)) then some (J 0, v) else lwNext o (J (min3 (zS X g) (c 4) (zE g))) S v) := by
    unfold F_lw_comes
    rw [grd_true _ hl.1, lw_nextSegment hl n1 n15 hP ⟨b3.1, b3.2.1⟩]
    simp only [Option.bind_some]
    rw [lw_nextClock hl n0 n5 hD hI]
    simp only [Option.bind_some]
    rw [lw_nextEdge hl n18 hS b4]
    simp only [Option.bind_some]
    rw [min_J (by omega) (by omega)]
    simp only [Option.bind_some]
    rw [min_J (by omega) (by split <;> omega)]
    rfl
  rw [e1]
  by_cases h : L < min3 (zS X g) (c 4) (zE g)
  · rw [if_pos ((J_lt (by omega) (by omega)).mpr h), if_pos h]
  · rw [if_neg (fun q => h ((J_lt (by omega) (by omega)).mp q)), if_neg h]
theorem rw_sl {v : vl} {a k b : Nat} {x : Int64} : rw (sl v a k x) b = rw v b := rfl
theorem gl_wr {v : vl} {a b k : Nat} {f : Nat → Int32} : gl (wr v a f) b k = gl v b k := rfl
theorem sl_wr {v : vl} {a b k : Nat} {f : Nat → Int32} {x : Int64} : sl (wr v a f) b k x = wr (sl v b k x) a f := rfl
theorem gl_sl {v : vl} {a k : Nat} {x : Int64} : gl (sl v a k x) a k = x := if_pos ⟨rfl, rfl⟩
theorem lw_comes0 (hl : lwL S o) (hR : lwR v o X T c g) (hI : mdI X T c g) (hL : 0 ≤ L ∧ L ≤ 2100000) (hs : 3 * L + 2 < keS (mt X) g) (hc : L < c 4) : F_lw_comes o (J L) S v = some (J 0, v) := by
  rw [lw_comes_eq hl hR hI hL]
  obtain ⟨b1, b2, b3, b4, b6⟩ := z_B hI
  refine if_pos ?_
  have hS : L < zS X g := by
    unfold zS
    split
    · rename_i q
      unfold keS at hs
      by_cases z : evS (mt X) g
      · rw [if_pos z] at hs; omega
      · rw [if_neg z] at hs
        by_cases z1 : g 1 = -1
        · exact absurd ⟨q, Or.inl z1⟩ z
        · rw [if_neg z1] at hs
          have : ¬ mt X (g 9).toNat ≤ g 1 := fun y => z ⟨q, Or.inr y⟩
          omega
    · omega
  have hE : L < zE g := by
    unfold zE
    split
    · omega
    · rename_i q
      have z1 : ¬ g 1 = -1 := fun y => q (b6.mpr y)
      unfold keS at hs
      by_cases z : evS (mt X) g
      · rw [if_pos z] at hs
        have := z.2
        omega
      · rw [if_neg z, if_neg z1] at hs
        omega
  unfold min3
  split <;> split <;> omega
theorem lwNext_C (hl : lwL S o) (hR : lwR v o X T c g) (hI : mdI X T c g) (hne : zS X g ≠ c 4) : ∃ v', lwNext o (J (c 4)) S v = some (J 2, v') ∧ lwR v' o X (c 4) (tkZ c) g ∧ flw o v v' := by
  obtain ⟨⟨⟨n0, n1, n4, n5, n6, n7, n8, n9⟩, n13, n14, n15, n18, n19⟩, hS, hD, hP⟩ := id hR
  obtain ⟨b1, b2, b3, b4, -⟩ := z_B hI
  have b5 := c5_B hI
  have hci : ckI c := hI.2.1
  obtain ⟨-, cD, cA, -⟩ := id hci
  have P7 : lwP (wr v o (up (rw v o) 4 (J (c 4)))) o X (g 8) := lwP_flw hP (flw_wr fun k hk => up_ne (by omega))
  unfold lwNext
  simp only [lt_def, si_wr]
  rw [lw_nextSegment hl (show rw (wr v o (up (rw v o) 4 (J (c 4)))) o 1 = J (g 8) by rw [rw_wr]; exact n1) (show rw (wr v o (up (rw v o) 4 (J (c 4)))) o 15 = J (g 9) by rw [rw_wr]; exact n15) P7 ⟨b3.1, b3.2.1⟩]
  simp only [Option.bind_some]
  rw [if_neg (fun q => hne ((J_inj (by omega) (by omega)).mp q)), lw_nextClock hl (show rw (wr v o (up (rw v o) 4 (J (c 4)))) o 0 = J (c 0) by rw [rw_wr]; exact n0) (show rw (wr v o (up (rw v o) 4 (J (c 4)))) o 5 = J (c 5) by rw [rw_wr]; exact n5) (show lwD (gl (wr v o (up (rw v o) 4 (J (c 4)))) o 20) c from hD) hI]
  simp only [Option.bind_some, if_true]
  obtain ⟨d, e1, e2, e3, e4, e5⟩ := hD
  have hcl : -99 ≤ tkD c ∧ tkD c ≤ 99 := tkD_I hci
  -- behind the drift
  have fin : ∀ f : Nat → Int32, f 0 = J (c 0) → f 1 = J (g 8) → f 4 = J (c 4) → f 5 = J (c 5 + 1) → f 6 = J (g 2) → f 7 = J (g 3) → f 8 = J (g 5) → f 9 = J (g 4) → f 13 = J (tkD c) → f 14 = J (c 2) → f 15 = J (g 9) → f 18 = J (g 0) → (f 16 = rw v o 16 ∧ f 17 = rw v o 17) → (∀ k, (k = 10 ∨ k = 11 ∨ k = 12 ∨ 21 ≤ k) → f k = rw v o k) →
      lwR (wr (sl v o 20 (JL d + Int32.toInt64 (J (tkD c)))) o (up f 19 (J (c 4)))) o X (c 4) (tkZ c) g ∧ flw o v (wr (sl v o 20 (JL d + Int32.toInt64 (J (tkD c)))) o (up f 19 (J (c 4)))) := by
    intro f f0 f1 f4 f5 f6 f7 f8 f9 f13 f14 f15 f18 f1617 fk
    have F : flw o v (wr (sl v o 20 (JL d + Int32.toInt64 (J (tkD c)))) o (up f 19 (J (c 4)))) := by
      refine ⟨fun x hx => ⟨rw_wr_ne hx, funext fun k => ?_⟩, fun k hk => by rw [rw_wr, up_ne (by omega)]; exact fk k hk⟩
      show up2 v.2 o 20 _ x k = v.2 x k
      unfold up2
      rw [if_neg (fun q => hx q.1)]
    refine ⟨⟨?_, ?_, ?_, lwP_flw hP F⟩, F⟩
    · rw [rw_wr]
      exact ⟨⟨f0, f1, f4, f5, f6, f7, f8, f9⟩, f13, f14, f15, f18, rfl⟩
    · obtain ⟨s, i, q1, q2, q3⟩ := hS
      rw [rw_wr]
      exact ⟨s, i, f1617.1.trans q1, f1617.2.trans q2, q3⟩
    · rw [gl_wr, gl_sl]
      have t1 : (Int32.toInt64 (J (tkD c))).toInt = tkD c := by rw [Int32.toInt_toInt64, J_toInt (by omega) (by omega)]
      have t2 : (JL d + Int32.toInt64 (J (tkD c))).toInt = d + tkD c := by
        rw [Int64.toInt_add, t1, JL_toInt (by omega) (by omega)]
        exact l_bm (by omega) (by omega)
      refine ⟨d + tkD c, Int64.toInt_inj.mp (by rw [t2, JL_toInt (by omega) (by omega)]), ?_, ?_, ?_, ?_⟩
      · show c 0 * (c 5 + 1 + 1) + (d + tkD c) / 1000 = c 4 + c 0 + (c 3 + tkD c) / 1000
        have m1 : c 0 * (c 5 + 1 + 1) = c 0 * (c 5 + 1) + c 0 := by rw [Int.mul_add, Int.mul_one]
        omega
      · show (d + tkD c) % 1000 = (c 3 + tkD c) % 1000
        omega
      · show -(99 * (c 5 + 1)) ≤ d + tkD c
        omega
      · show d + tkD c ≤ 99 * (c 5 + 1)
        omega
  have t5 : (J (c 5) + J 1).toInt = c 5 + 1 := by rw [← J_add, J_toInt (by omega) (by omega)]
  have erem : ((J (c 5) + J 1) - (J (c 5) + J 1) / J 100 * J 100 = J 0) ↔ (c 5 + 1) % 100 = 0 := by
    rw [i_eq, i_rem (by rw [t5]; omega) (by rw [tJ]; decide), t5, tJ, tJ]
  have g5 : gi (wr (wr v o (up (rw v o) 4 (J (c 4)))) o (up (rw (wr v o (up (rw v o) 4 (J (c 4)))) o) 5 (gi (wr v o (up (rw v o) 4 (J (c 4)))) o 5 + J 1))) o 5 = J (c 5) + J 1 := by
    simp only [gi_x, rw_wr, up_same]
    rw [up_ne (by decide), n5]
  rw [g5]
  by_cases h : (c 5 + 1) % 100 = 0
  · rw [if_pos (erem.mpr h)]
    have eD : tkD c = clampZ (c 1 + c 2) := by unfold tkD; rw [if_pos h]
    simp only [gi_x, rw_wr, wr_wr]
    rw [show (up (up (rw v o) 4 (J (c 4))) 5 (up (rw v o) 4 (J (c 4)) 5 + J 1)) 13 + (up (up (rw v o) 4 (J (c 4))) 5 (up (rw v o) 4 (J (c 4)) 5 + J 1)) 14 = J (c 1 + c 2) by rw [J_add, ← n13, ← n14]; rfl]
    rw [min_J (by decide) (by omega)]
    simp only [Option.bind_some]
    rw [max_J (by decide) (by split <;> omega)]
    simp only [Option.bind_some]
    have ecl : (if -99 < (if c 1 + c 2 < 99 then c 1 + c 2 else 99) then (if c 1 + c 2 < 99 then c 1 + c 2 else 99) else -99) = tkD c := by
      rw [eD]; unfold clampZ
      split <;> split <;> split <;> (try split) <;> omega
    rw [ecl]
    simp only [sl_wr, gl_wr, rw_wr, wr_wr]
    refine ⟨_, rfl, ?_⟩
    have q := fin (up (up (up (rw v o) 4 (J (c 4))) 5 (up (rw v o) 4 (J (c 4)) 5 + J 1)) 13 (J (tkD c))) n0 n1 rfl (by rw [J_add, ← n5]; rfl) n6 n7 n8 n9 rfl n14 n15 n18 ⟨rfl, rfl⟩ (fun k hk => by rw [up_ne (by omega), up_ne (by omega), up_ne (by omega)])
    rw [← e1] at q
    exact q
  · rw [if_neg (fun q => h (erem.mp q))]
    have eD : tkD c = c 1 := by unfold tkD; rw [if_neg h]
    simp only [gi_x, sl_wr, gl_wr, rw_wr, wr_wr]
    refine ⟨_, rfl, ?_⟩
    have q := fin (up (up (rw v o) 4 (J (c 4))) 5 (up (rw v o) 4 (J (c 4)) 5 + J 1)) n0 n1 rfl (by rw [J_add, ← n5]; rfl) n6 n7 n8 n9 (by rw [eD]; exact n13) n14 n15 n18 ⟨rfl, rfl⟩ (fun k hk => by rw [up_ne (by omega), up_ne (by omega)])
    rw [← e1] at q
    have e13 : (up (up (rw v o) 4 (J (c 4))) 5 (up (rw v o) 4 (J (c 4)) 5 + J 1)) 13 = J (tkD c) := by rw [eD]; exact n13
    rw [← e13] at q
    exact q
theorem lw_comesC (hl : lwL S o) (hR : lwR v o X T c g) (hI : mdI X T c g) (hL : 0 ≤ L ∧ L ≤ 2100000) (hs : 3 * c 4 + 1 < keS (mt X) g) (hc : c 4 ≤ L) : ∃ v', F_lw_comes o (J L) S v = some (J 2, v') ∧ lwR v' o X (c 4) (tkZ c) g ∧ flw o v v' := by
  obtain ⟨b1, b2, b3, b4, b6⟩ := z_B hI
  have hS : c 4 < zS X g := by
    unfold zS
    split
    · rename_i q
      unfold keS at hs
      by_cases z : evS (mt X) g
      · rw [if_pos z] at hs; omega
      · rw [if_neg z] at hs
        by_cases z1 : g 1 = -1
        · exact absurd ⟨q, Or.inl z1⟩ z
        · rw [if_neg z1] at hs
          have : ¬ mt X (g 9).toNat ≤ g 1 := fun y => z ⟨q, Or.inr y⟩
          omega
    · omega
  have hE : c 4 ≤ zE g := by
    unfold zE
    split
    · omega
    · rename_i q
      have z1 : ¬ g 1 = -1 := fun y => q (b6.mpr y)
      unfold keS at hs
      by_cases z : evS (mt X) g
      · rw [if_pos z] at hs
        have := z.2
        omega
      · rw [if_neg z, if_neg z1] at hs
        omega
  have em : min3 (zS X g) (c 4) (zE g) = c 4 := by
    unfold min3
    rw [if_neg (show ¬ zE g < c 4 by omega), if_pos hS]
  rw [lw_comes_eq hl hR hI hL, em, if_neg (by omega)]
  exact lwNext_C hl hR hI (by omega)
theorem lwNext_E (hl : lwL S o) (hR : lwR v o X T c g) (hI : mdI X T c g) (hne : zS X g ≠ g 1) (hc : g 1 < c 4) (h1 : 0 ≤ g 1) (hev : ¬ evS (mt X) g) : ∃ v', lwNext o (J (g 1)) S v = some (J (evK (mt X) g), v') ∧ lwR v' o X (g 1) c (egZ g) ∧ flw o v v' := by
  obtain ⟨⟨⟨n0, n1, n4, n5, n6, n7, n8, n9⟩, n13, n14, n15, n18, n19⟩, hS, hD, hP⟩ := id hR
  obtain ⟨b1, b2, b3, b4, b6⟩ := z_B hI
  have b5 := c5_B hI
  obtain ⟨-, -, -, -, ⟨g4a, g4b⟩, g5a, g5b⟩ := mdI_sgB hI
  have P7 : lwP (wr v o (up (rw v o) 4 (J (g 1)))) o X (g 8) := lwP_flw hP (flw_wr fun k hk => up_ne (by omega))
  unfold lwNext
  simp only [lt_def, si_wr]
  rw [lw_nextSegment hl (show rw (wr v o (up (rw v o) 4 (J (g 1)))) o 1 = J (g 8) by rw [rw_wr]; exact n1) (show rw (wr v o (up (rw v o) 4 (J (g 1)))) o 15 = J (g 9) by rw [rw_wr]; exact n15) P7 ⟨b3.1, b3.2.1⟩]
  simp only [Option.bind_some]
  rw [if_neg (fun q => hne ((J_inj (by omega) (by omega)).mp q)), lw_nextClock hl (show rw (wr v o (up (rw v o) 4 (J (g 1)))) o 0 = J (c 0) by rw [rw_wr]; exact n0) (show rw (wr v o (up (rw v o) 4 (J (g 1)))) o 5 = J (c 5) by rw [rw_wr]; exact n5) (show lwD (gl (wr v o (up (rw v o) 4 (J (g 1)))) o 20) c from hD) hI]
  simp only [Option.bind_some]
  rw [if_neg (fun q => by have := (J_inj (show -2147483648 ≤ c 4 ∧ c 4 < 2147483648 by omega) (show -2147483648 ≤ g 1 ∧ g 1 < 2147483648 by omega)).mp q; omega)]
  simp only [gi_x, rw_wr, wr_wr]
  obtain ⟨s, i, q1, q2, q3⟩ := hS
  have m8 : (up (up (up (up (rw v o) 4 (J (g 1))) 17 (up (rw v o) 4 (J (g 1)) 17 + J 1)) 6 (up (up (rw v o) 4 (J (g 1))) 17 (up (rw v o) 4 (J (g 1)) 17 + J 1) 6 + J 1)) 8 (up (up (up (rw v o) 4 (J (g 1))) 17 (up (rw v o) 4 (J (g 1)) 17 + J 1)) 6 (up (up (rw v o) 4 (J (g 1))) 17 (up (rw v o) 4 (J (g 1)) 17 + J 1) 6 + J 1) 8 + J 1)) 8 = J (g 5 + 1) := by rw [J_add, ← n8]; rfl
  have m9 : (up (up (up (up (rw v o) 4 (J (g 1))) 17 (up (rw v o) 4 (J (g 1)) 17 + J 1)) 6 (up (up (rw v o) 4 (J (g 1))) 17 (up (rw v o) 4 (J (g 1)) 17 + J 1) 6 + J 1)) 8 (up (up (up (rw v o) 4 (J (g 1))) 17 (up (rw v o) 4 (J (g 1)) 17 + J 1)) 6 (up (up (rw v o) 4 (J (g 1))) 17 (up (rw v o) 4 (J (g 1)) 17 + J 1) 6 + J 1) 8 + J 1)) 9 = J (g 4) := n9
  have e17 : rw v o 17 + J 1 = J (i + 1) := by rw [q2, J_add]
  have e6 : rw v o 6 + J 1 = J (g 2 + 1) := by rw [n6, J_add]
  have hS' : ∀ f : Nat → Int32, f 16 = rw v o 16 → f 17 = rw v o 17 + J 1 → lwS f (egZ g) := fun f f16 f17 => ⟨s, i + 1, f16.trans q1, f17.trans e17, fun h0 => by
    have e := q3 h0
    show s + g 0 * (i + 1 + 1) = g 1 + g 0
    have m1 : g 0 * (i + 1 + 1) = g 0 * (i + 1) + g 0 := by rw [Int.mul_add, Int.mul_one]
    omega⟩
  unfold evK
  rw [if_neg hev]
  by_cases h : g 5 + 1 < g 4
  · rw [if_pos (by rw [m8, m9]; exact (J_lt (by omega) (by omega)).mpr h), if_pos h]
    refine ⟨_, rfl, ?_⟩
    have F : flw o v (wr v o (up (up (up (up (rw v o) 4 (J (g 1))) 17 (up (rw v o) 4 (J (g 1)) 17 + J 1)) 6 (up (up (rw v o) 4 (J (g 1))) 17 (up (rw v o) 4 (J (g 1)) 17 + J 1) 6 + J 1)) 8 (up (up (up (rw v o) 4 (J (g 1))) 17 (up (rw v o) 4 (J (g 1)) 17 + J 1)) 6 (up (up (rw v o) 4 (J (g 1))) 17 (up (rw v o) 4 (J (g 1)) 17 + J 1) 6 + J 1) 8 + J 1))) := flw_wr fun k hk => by rw [up_ne (by omega), up_ne (by omega), up_ne (by omega), up_ne (by omega)]
    refine ⟨⟨?_, ?_, hD, lwP_flw hP F⟩, F⟩
    · rw [rw_wr]
      exact ⟨⟨n0, n1, rfl, n5, e6, by show rw v o 7 = J (if g 5 + 1 < g 4 then g 3 else g 3 + 1); rw [if_pos h]; exact n7, by rw [m8]; show J (g 5 + 1) = J (if g 5 + 1 < g 4 then g 5 + 1 else 0); rw [if_pos h], n9⟩, n13, n14, n15, n18, n19⟩
    · rw [rw_wr]
      exact hS' _ rfl rfl
  · rw [if_neg (by rw [m8, m9]; exact fun q => h ((J_lt (by omega) (by omega)).mp q)), if_neg h]
    refine ⟨_, rfl, ?_⟩
    have e7 : rw v o 7 + J 1 = J (g 3 + 1) := by rw [n7, J_add]
    refine (fun (F : flw o v _) => ⟨⟨?_, ?_, hD, lwP_flw hP F⟩, F⟩) (flw_wr fun k hk => by rw [up_ne (by omega), up_ne (by omega), up_ne (by omega), up_ne (by omega), up_ne (by omega), up_ne (by omega)])
    · rw [rw_wr]
      exact ⟨⟨n0, n1, rfl, n5, e6, by show rw v o 7 + J 1 = J (if g 5 + 1 < g 4 then g 3 else g 3 + 1); rw [if_neg h]; exact e7, by show J 0 = J (if g 5 + 1 < g 4 then g 5 + 1 else 0); rw [if_neg h], n9⟩, n13, n14, n15, n18, n19⟩
    · rw [rw_wr]
      exact hS' _ rfl rfl
theorem lwNext_S (hl : lwL S o) (hR : lwR v o X T c g) (hI : mdI X T c g) (h : evS (mt X) g) : ∃ v', lwNext o (J (mt X (g 9).toNat)) S v = some (J 1, v') ∧ lwR v' o X (mt X (g 9).toNat) c (smZ (mt X) (mp X) g) ∧ flw o v v' := by
  obtain ⟨⟨⟨n0, n1, n4, n5, n6, n7, n8, n9⟩, n13, n14, n15, n18, n19⟩, hS, hD, hP⟩ := id hR
  obtain ⟨b1, b2, b3, b4, b6⟩ := z_B hI
  have h4 := hP.1
  have h98 := h.1
  have P7 : lwP (wr v o (up (rw v o) 4 (J (mt X (g 9).toNat)))) o X (g 8) := lwP_flw hP (flw_wr fun k hk => up_ne (by omega))
  have hp : 0 ≤ mp X (g 9).toNat := by
    obtain ⟨⟨u, ⟨-, -, hJ3, -⟩, -, -⟩, -⟩ := id hI
    exact ((hJ3 (g 9).toNat (by omega)).2.1).1
  have t9 : (J (g 9)).toInt = ((g 9).toNat : Nat) := by rw [J_toInt (by omega) (by omega)]; omega
  unfold lwNext
  simp only [lt_def, si_wr]
  rw [lw_nextSegment hl (show rw (wr v o (up (rw v o) 4 (J (mt X (g 9).toNat)))) o 1 = J (g 8) by rw [rw_wr]; exact n1) (show rw (wr v o (up (rw v o) 4 (J (mt X (g 9).toNat)))) o 15 = J (g 9) by rw [rw_wr]; exact n15) P7 ⟨b3.1, b3.2.1⟩, show zS X g = mt X (g 9).toNat from if_pos h98]
  simp only [Option.bind_some, if_true]
  rw [hl.2.2.2.1]
  simp only [Option.bind_some, gi_x, rw_wr, wr_wr]
  rw [grd_true _ hl.2.2.2.2]
  have e15 : (up (up (up (rw v o) 4 (J (mt X (g 9).toNat))) 16 (J (mt X (g 9).toNat))) 17 (J 0)) 15 = J (g 9) := n15
  rw [e15, grd_true _ (vin_of hl.2.2.2.2 t9 (by omega)), clampT t9, rw_wr_ne (show o + 2 ≠ o by omega), (hP.2 _ (by omega)).2]
  refine ⟨_, rfl, ?_⟩
  refine (fun (F : flw o v _) => ⟨⟨?_, ?_, hD, lwP_flw hP F⟩, F⟩) (flw_wr fun k hk => by rw [up_ne (by omega), up_ne (by omega), up_ne (by omega), up_ne (by omega), up_ne (by omega)])
  · rw [rw_wr]
    exact ⟨⟨n0, n1, rfl, n5, n6, n7, n8, n9⟩, n13, n14, by show (up (up (up (up (rw v o) 4 (J (mt X (g 9).toNat))) 16 (J (mt X (g 9).toNat))) 17 (J 0)) 18 (J (mp X (g 9).toNat))) 15 + J 1 = J (g 9 + 1); rw [J_add, ← n15]; rfl, rfl, n19⟩
  · rw [rw_wr]
    refine ⟨mt X (g 9).toNat, 0, rfl, rfl, fun hz => ?_⟩
    show mt X (g 9).toNat + mp X (g 9).toNat * (0 + 1) = if 0 < mp X (g 9).toNat then mt X (g 9).toNat + mp X (g 9).toNat else -1
    have hz' : mp X (g 9).toNat ≠ 0 := hz
    rw [if_pos (by omega)]
    omega
theorem lw_comesS (hl : lwL S o) (hR : lwR v o X T c g) (hI : mdI X T c g) (hL : 0 ≤ L ∧ L ≤ 2100000) (hs : keS (mt X) g ≤ 3 * L + 2) (hc : keS (mt X) g < 3 * c 4 + 1) : ∃ v', F_lw_comes o (J L) S v = some (J (evK (mt X) g), v') ∧ lwR v' o X (evT (mt X) g) c (ev1 (mt X) (mp X) g) ∧ flw o v v' := by
  obtain ⟨b1, b2, b3, b4, b6⟩ := z_B hI
  by_cases h : evS (mt X) g
  · have hk : keS (mt X) g = 3 * mt X (g 9).toNat := by unfold keS; rw [if_pos h]
    have hz : zS X g = mt X (g 9).toNat := by unfold zS; rw [if_pos h.1]
    have hE : mt X (g 9).toNat ≤ zE g := by
      unfold zE
      split
      · omega
      · rename_i q
        have z1 : ¬ g 1 = -1 := fun y => q (b6.mpr y)
        have := h.2
        omega
    have em : min3 (zS X g) (c 4) (zE g) = mt X (g 9).toNat := by
      unfold min3
      rw [hz]
      split <;> (try split) <;> omega
    obtain ⟨v', e1, e2, e3⟩ := lwNext_S hl hR hI h
    rw [lw_comes_eq hl hR hI hL, em, if_neg (by omega), e1]
    refine ⟨v', ?_, ?_, e3⟩
    · unfold evK; rw [if_pos h]
    · unfold evT ev1; rw [if_pos h, if_pos h]; exact e2
  · have h1 : ¬ g 1 = -1 := fun z => by unfold keS at hs; rw [if_neg h, if_pos z] at hs; omega
    have hk : keS (mt X) g = 3 * g 1 + 2 := by unfold keS; rw [if_neg h, if_neg h1]
    have h0 : ¬ g 0 = 0 := fun z => h1 (b6.mp z)
    have hE : zE g = g 1 := by unfold zE; rw [if_neg h0]
    have hS : g 1 < zS X g := by
      unfold zS
      split
      · rename_i q
        have : ¬ mt X (g 9).toNat ≤ g 1 := fun y => h ⟨q, Or.inr y⟩
        omega
      · omega
    have em : min3 (zS X g) (c 4) (zE g) = g 1 := by
      unfold min3
      rw [hE]
      split <;> (try split) <;> omega
    obtain ⟨v', e1, e2, e3⟩ := lwNext_E hl hR hI (by omega) (by omega) (by omega) h
    rw [lw_comes_eq hl hR hI hL, em, if_neg (by omega), e1]
    refine ⟨v', rfl, ?_, e3⟩
    unfold evT ev1; rw [if_neg h, if_neg h]; exact e2
end LAWCOMES
