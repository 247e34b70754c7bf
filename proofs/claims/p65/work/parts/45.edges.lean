/-! The signal's edges. 0 period, 1 next edge, 2 edges, 3 outputs, 4 prescale, 5 prescaled, 6 edges when set, 7 outputs when set, 8 segments, 9 came. -/
section EDGES
def egZ (g : Nat → Int) : Nat → Int := fun k => match k with
  | 1 => g 1 + g 0
  | 2 => g 2 + 1
  | 3 => if g 5 + 1 < g 4 then g 3 else g 3 + 1
  | 5 => if g 5 + 1 < g 4 then g 5 + 1 else 0
  | k => g k
def egN : Nat → (Nat → Int) → (Nat → Int)
  | 0, g => g
  | n + 1, g => egZ (egN n g)
theorem egN_add (m n : Nat) (g : Nat → Int) : egN (m + n) g = egN n (egN m g) := by
  induction n with
  | zero => rfl
  | succ k ih => show egZ (egN (m + k) g) = egZ (egN k (egN m g)); rw [ih]
def epZ (n : Int) (g : Nat → Int) : Nat → Int := fun k => match k with
  | 1 => g 1 + n * g 0
  | 2 => g 2 + n
  | 3 => g 3 + (g 5 + n) / g 4
  | 5 => (g 5 + n) % g 4
  | k => g k
theorem egN_ep {g : Nat → Int} (h5 : 0 ≤ g 5 ∧ g 5 < g 4) : ∀ n : Nat, egN n g = epZ n g
  | 0 => by
    funext k
    match k with
    | 0 => rfl
    | 1 => show g 1 = g 1 + ((0 : Nat) : Int) * g 0; simp
    | 2 => show g 2 = g 2 + ((0 : Nat) : Int); simp
    | 3 => show g 3 = g 3 + (g 5 + ((0 : Nat) : Int)) / g 4; rw [show g 5 + ((0 : Nat) : Int) = g 5 by simp, Int.ediv_eq_zero_of_lt h5.1 h5.2]; simp
    | 4 => rfl
    | 5 => show g 5 = (g 5 + ((0 : Nat) : Int)) % g 4; rw [show g 5 + ((0 : Nat) : Int) = g 5 by simp, Int.emod_eq_of_lt h5.1 h5.2]
    | j + 6 => rfl
  | n + 1 => by
    show egZ (egN n g) = _
    rw [egN_ep h5 n]
    have hp : 0 < g 4 := by omega
    have hm := Int.mul_ediv_add_emod (g 5 + n) (g 4)
    have hm1 := Int.emod_nonneg (g 5 + n) (Int.ne_of_gt hp)
    have hm2 := Int.emod_lt_of_pos (g 5 + n) hp
    have e0 : ((n + 1 : Nat) : Int) * g 0 = (n : Int) * g 0 + g 0 := by rw [show ((n + 1 : Nat) : Int) = (n : Int) + 1 from rfl, Int.add_mul, Int.one_mul]
    have ec : ((n + 1 : Nat) : Int) = (n : Int) + 1 := rfl
    have key : (g 5 + ((n : Int) + 1)) / g 4 = (if (g 5 + n) % g 4 + 1 < g 4 then (g 5 + n) / g 4 else (g 5 + n) / g 4 + 1) ∧ (g 5 + ((n : Int) + 1)) % g 4 = (if (g 5 + n) % g 4 + 1 < g 4 then (g 5 + n) % g 4 + 1 else 0) := by
      by_cases h : (g 5 + n) % g 4 + 1 < g 4
      · rw [if_pos h, if_pos h]
        exact (Int.ediv_emod_unique hp).mpr ⟨by omega, by omega, h⟩
      · rw [if_neg h, if_neg h]
        refine (Int.ediv_emod_unique hp).mpr ⟨?_, by omega, hp⟩
        rw [Int.mul_add, Int.mul_one]
        omega
    funext k
    match k with
    | 0 => rfl
    | 1 => show g 1 + (n : Int) * g 0 + g 0 = g 1 + ((n + 1 : Nat) : Int) * g 0; rw [e0]; omega
    | 2 => show g 2 + (n : Int) + 1 = g 2 + ((n + 1 : Nat) : Int); omega
    | 3 =>
      show (if (g 5 + n) % g 4 + 1 < g 4 then g 3 + (g 5 + n) / g 4 else g 3 + (g 5 + n) / g 4 + 1) = g 3 + (g 5 + ((n + 1 : Nat) : Int)) / g 4
      rw [ec, key.1]
      split <;> omega
    | 4 => rfl
    | 5 =>
      show (if (g 5 + n) % g 4 + 1 < g 4 then (g 5 + n) % g 4 + 1 else 0) = (g 5 + ((n + 1 : Nat) : Int)) % g 4
      rw [ec, key.2]
    | j + 6 => rfl
/-- so many edges come up to T -/
def edF (X Y Z : Int) : Int := if Y ≠ -1 ∧ Y ≤ X ∧ 0 < Z then (X - Y) / Z + 1 else 0
def edN (T : Int) (g : Nat → Int) : Int := edF T (g 1) (g 0)
theorem edN_nn (T : Int) (g : Nat → Int) : 0 ≤ edN T g := by
  unfold edN edF
  split
  · rename_i h
    have := Int.ediv_nonneg (a := T - g 1) (b := g 0) (by omega) (by omega)
    omega
  · omega
theorem edN_le {T : Int} {g : Nat → Int} (h1 : -1 ≤ g 1) (hT : -2 ≤ T) : edN T g ≤ T + 2 ∧ edN T g * g 0 ≤ (if 0 < g 0 then T + 1 + g 0 else 0) ∧ (0 ≤ g 0 → 0 ≤ edN T g * g 0) := by
  have hn := edN_nn T g
  refine ⟨?_, ?_, fun h => Int.mul_nonneg hn h⟩
  · unfold edN edF
    split
    · rename_i h
      have := Int.ediv_le_self (a := T - g 1) (g 0) (by omega)
      omega
    · omega
  · unfold edN edF
    split
    · rename_i h
      rw [if_pos h.2.2, Int.add_mul, Int.one_mul]
      have := Int.ediv_mul_le (T - g 1) (b := g 0) (by omega)
      omega
    · rw [Int.zero_mul]
      split <;> omega
theorem sg_edges {x y z : Int32} {X Y Z : Int} (hx : x.toInt = X) (hy : y.toInt = Y) (hz : z.toInt = Z) (bx : -2 ≤ X ∧ X ≤ 100000000) (by' : -1 ≤ Y ∧ Y ≤ 100000000) (S : shp) (v : vl) : F_sg_edgesUpTo x y z S v = some (J (edF X Y Z)) := by
  unfold F_sg_edgesUpTo edF
  by_cases h1 : Y = -1
  · rw [if_pos (i_eq.mpr (by rw [hy, tJ]; exact h1)), if_neg (fun q => q.1 h1)]
  · rw [if_neg (fun q => h1 (by have := i_eq.mp q; rw [hy, tJ] at this; exact this))]
    by_cases h2 : X < Y
    · rw [if_pos (i_lt.mpr (by rw [hx, hy]; exact h2)), if_neg (fun q => by omega)]
    · rw [if_neg (fun q => h2 (by have := i_lt.mp q; rw [hx, hy] at this; exact this))]
      have z0 : (0 : Int32).toInt = 0 := by decide
      by_cases h3 : 0 < Z
      · have hz0 : ¬ z = 0 := fun q => by subst q; omega
        rw [if_pos (i_lt.mpr (by rw [hz, tJ]; exact h3)), if_pos ⟨h1, by omega, h3⟩, grd_true _ hz0]
        refine congrArg some (i_eq.mpr ?_)
        have e1 : (x - y).toInt = X - Y := by rw [i_sub, hx, hy] <;> (rw [hx, hy]; omega)
        have e2 : ((x - y) / z).toInt = (X - Y) / Z := by rw [i_div (by rw [hz]; exact h3), e1, hz, Int.tdiv_eq_ediv_of_nonneg (by omega)]
        have b1 := Int.ediv_nonneg (a := X - Y) (b := Z) (by omega) (by omega)
        have b2 := Int.ediv_le_self (a := X - Y) Z (by omega)
        rw [i_add, e2, tJ, J_toInt (by omega) (by omega)]
        · rw [e2, tJ]; omega
        · rw [e2, tJ]; omega
      · rw [if_neg (fun q => h3 (by have := i_lt.mp q; rw [hz, tJ] at this; exact this)), if_neg (fun q => h3 q.2.2)]
/-- bounds of a signal's numbers -/
def sgB (g : Nat → Int) : Prop := (0 ≤ g 0 ∧ g 0 ≤ 9999) ∧ (-1 ≤ g 1 ∧ g 1 ≤ 3000000) ∧ (0 ≤ g 2 ∧ g 2 ≤ 3000000) ∧ (0 ≤ g 3 ∧ g 3 ≤ 3000000) ∧ (1 ≤ g 4 ∧ g 4 ≤ 16) ∧ (0 ≤ g 5 ∧ g 5 < g 4)
theorem sg_passEdges {S : shp} {v : vl} {a : Nat} {g : Nat → Int} {T : Int} (hk : kin S a = some (0, 3)) (hc : rw v a = iz g) (hr : rB g) (hb : sgB g) (hT : -2 ≤ T ∧ T ≤ 2100000) :
    F_sg_passEdgesUpTo a (J T) S v = some (wr v a (iz (egN (edN T g).toNat g))) := by
  obtain ⟨b0, b1, b2, b3, b4, b5⟩ := hb
  have gg : ∀ k, (rw v a k).toInt = g k := fun k => by rw [hc]; exact zi_iz hr k
  have tT : (J T).toInt = T := J_toInt (by omega) (by omega)
  obtain ⟨n1, n2, n3⟩ := edN_le (T := T) (g := g) b1.1 hT.1
  have n0 := edN_nn T g
  have n3' := n3 b0.1
  have n2' : edN T g * g 0 ≤ 2110001 := by
    refine Int.le_trans n2 ?_
    split <;> omega
  unfold F_sg_passEdgesUpTo
  rw [grd_true _ hk]
  simp only [gi_rw]
  rw [sg_edges tT (gg 1) (gg 0) ⟨hT.1, by omega⟩ ⟨b1.1, by omega⟩]
  rw [show edF T (g 1) (g 0) = edN T g from rfl]
  simp only [Option.bind_some]
  have tn : (J (edN T g)).toInt = edN T g := J_toInt (by omega) (by omega)
  by_cases h : 0 < edN T g
  · have z0 : (0 : Int32).toInt = 0 := by decide
    have g4 := gg 4
    have h1 : (0 : Int32) ≠ rw v a 4 := fun q => by rw [← q] at g4; omega
    rw [if_pos (i_lt.mpr (by rw [tn, tJ]; exact h))]
    have hp : J 0 < rw v a 4 := i_lt.mpr (by rw [gg, tJ]; omega)
    simp only [hp, if_true]
    simp only [lt_def, si_wr, wr_wr, rw_wr, gi_rw]
    rw [grd_true, grd_true]
    · have hn : ((edN T g).toNat : Int) = edN T g := by omega
      rw [egN_ep b5]
      refine congrArg (fun f => some (wr v a f)) (row_ext fun k => ?_)
      have e1 : (J (edN T g) * rw v a 0).toInt = edN T g * g 0 := by rw [i_mul, tn, gg] <;> (rw [tn, gg]; omega)
      have e5 : (rw v a 5 + J (edN T g)).toInt = g 5 + edN T g := by rw [i_add, tn, gg] <;> (rw [tn, gg]; omega)
      have p4 : 0 < (rw v a 4).toInt := by rw [gg]; omega
      have ed : ((rw v a 5 + J (edN T g)) / rw v a 4).toInt = (g 5 + edN T g) / g 4 := by rw [i_div p4, e5, gg, Int.tdiv_eq_ediv_of_nonneg (by omega)]
      have q1 := Int.ediv_nonneg (a := g 5 + edN T g) (b := g 4) (by omega) (by omega)
      have q2 := Int.ediv_le_self (a := g 5 + edN T g) (g 4) (by omega)
      have er : (rw v a 5 + J (edN T g) - (rw v a 5 + J (edN T g)) / rw v a 4 * rw v a 4).toInt = (g 5 + edN T g) % g 4 := by rw [i_rem (by rw [e5]; omega) p4, e5, gg]
      unfold up epZ
      rw [hn]
      match k with
      | 0 => exact gg 0
      | 1 => show (rw v a 1 + J (edN T g) * rw v a 0).toInt = g 1 + edN T g * g 0; rw [i_add, e1, gg] <;> (rw [e1, gg]; omega)
      | 2 => show (rw v a 2 + J (edN T g)).toInt = g 2 + edN T g; rw [i_add, tn, gg] <;> (rw [tn, gg]; omega)
      | 3 => show (rw v a 3 + (rw v a 5 + J (edN T g)) / rw v a 4).toInt = g 3 + (g 5 + edN T g) / g 4; rw [i_add, ed, gg] <;> (rw [ed, gg]; omega)
      | 4 => exact gg 4
      | 5 => exact er
      | j + 6 => exact gg (j + 6)
    · exact fun q => h1 q.symm
    · exact fun q => h1 q.symm
  · have h0 : edN T g = 0 := by omega
    rw [if_neg (fun q => h (by have := i_lt.mp q; rw [tn, tJ] at this; exact this)), h0]
    show some v = some (wr v a (iz g))
    rw [← hc, wr_self]
end EDGES
