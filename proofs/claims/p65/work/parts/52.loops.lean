/-! The model's ways through what comes. -/
section LOOPS
theorem J_inj {x y : Int} (hx : -2147483648 ≤ x ∧ x < 2147483648) (hy : -2147483648 ≤ y ∧ y < 2147483648) : J x = J y ↔ x = y := by
  rw [i_eq, J_toInt hx.1 hx.2, J_toInt hy.1 hy.2]
theorem evK_ne (t g : Nat → Int) : ¬ J (evK t g) = J 0 ∧ ¬ J (evK t g) = J 2 := by
  unfold evK
  split
  · exact ⟨by decide, by decide⟩
  · split <;> exact ⟨by decide, by decide⟩
theorem three {t g : Nat → Int} {L z : Int} : (3 * L + 2 < keS t g ∧ L < z) ∨ (keS t g ≤ 3 * L + 2 ∧ keS t g < 3 * z + 1) ∨ (3 * z + 1 < keS t g ∧ z ≤ L) := by
  have := keS_mod t g
  omega
theorem mdI_end {X : Nat → Int} {T T' : Int} {c g : Nat → Int} (h : mdI X T c g) (hT : 0 ≤ T' ∧ T' ≤ 2100000) : mdI X T' c g := by
  obtain ⟨h0, h1, h2, hX, -, h6⟩ := h
  exact ⟨h0, h1, h2, hX, hT, h6⟩
theorem mk_T {X : Nat → Int} {T T' : Int} {c g : Nat → Int} : up (iz (mk X T c g)) 0 (J T') = iz (mk X T' c g) := by
  funext k
  unfold up iz
  match k with
  | 0 => rfl
  | 1 => rfl
  | 2 => rfl
  | 3 => rfl
  | 4 => rfl
  | 5 => rfl
  | 6 => rfl
  | 7 => rfl
  | 8 => rfl
  | 9 => rfl
  | 10 => rfl
  | 11 => rfl
  | 12 => rfl
  | 13 => rfl
  | 14 => rfl
  | 15 => rfl
  | 16 => rfl
  | 17 => rfl
  | 18 => rfl
  | 19 => rfl
  | 20 => rfl
  | j + 21 => rfl
theorem sgK_ev' {X : Nat → Int} {T K : Int} {c g : Nat → Int} (h : mdI X T c g) (hK2 : K ≤ 6300002) (hK : keS (mt X) g ≤ K) : sgK (mt X) (mp X) K (ev1 (mt X) (mp X) g) = sgK (mt X) (mp X) K g := by
  obtain ⟨⟨u, hJ, q0, q1⟩, -⟩ := h
  exact (sgK_ev hJ q0 hK2 hK).symm
theorem keS_nn {X : Nat → Int} {T : Int} {c g : Nat → Int} (hI : mdI X T c g) : 0 ≤ keS (mt X) g := by
  obtain ⟨⟨u, hJ, q0, q1⟩, -⟩ := id hI
  have d := hJ.2.2.2
  have b9 := hJ.2.1
  unfold keS
  split
  · rename_i q
    have := d (g 9).toNat (by omega) (by have := q.1; omega)
    omega
  · have := (sgI_B hJ.1 ⟨q0, q1⟩).2.1
    split <;> omega
theorem mdI_sgK {X : Nat → Int} {T K : Int} {c g : Nat → Int} (h : mdI X T c g) (hK : K ≤ 6300002) : mdI X T c (sgK (mt X) (mp X) K g) ∧ g 2 ≤ sgK (mt X) (mp X) K g 2 ∧ g 3 ≤ sgK (mt X) (mp X) K g 3 ∧ sgK (mt X) (mp X) K g 4 = g 4 ∧ sgK (mt X) (mp X) K g 8 = g 8 ∧ sgK (mt X) (mp X) K g 6 = g 6 ∧ sgK (mt X) (mp X) K g 7 = g 7 := by
  obtain ⟨⟨u, hJ, q0, q1⟩, h1, h2, hX, hT, h6, s6, s7⟩ := h
  obtain ⟨k1, u', k2, k3, k4, k5⟩ := sgK_J hJ q0 q1 hK
  have hM := sgK_M hJ q0 q1 hK (fun h => h 6 = g 6 ∧ h 7 = g 7 ∧ g 2 ≤ h 2 ∧ g 3 ≤ h 3 ∧ h 4 = g 4 ∧ h 8 = g 8) ⟨rfl, rfl, Int.le_refl _, Int.le_refl _, rfl, rfl⟩ (fun u h _ _ _ hM _ => by
    obtain ⟨e6, e7, e2, e3, e4, e8⟩ := ev1_67 (mt X) (mp X) h
    refine ⟨by omega, by omega, by omega, by omega, by omega, by omega⟩)
  obtain ⟨e6, e7, e2, e3, e4, e8⟩ := hM
  exact ⟨⟨⟨u', k2, by omega, k5⟩, h1, h2, hX, hT, h6, by omega, by omega⟩, e2, e3, e4, e8, e6, e7⟩
theorem ev1_3 {X : Nat → Int} {T : Int} {c g : Nat → Int} (hI : mdI X T c g) : ev1 (mt X) (mp X) g 3 = g 3 + (if J (evK (mt X) g) = J 4 then 1 else 0) := by
  unfold ev1 evK
  by_cases h : evS (mt X) g
  · rw [if_pos h, if_pos h, if_neg (by decide)]
    show g 3 = g 3 + 0
    omega
  · rw [if_neg h, if_neg h]
    show (if g 5 + 1 < g 4 then g 3 else g 3 + 1) = _
    by_cases h5 : g 5 + 1 < g 4
    · rw [if_pos h5, if_pos h5, if_neg (by decide)]; omega
    · rw [if_neg h5, if_neg h5, if_pos rfl]
/-- the fields of a measurement that is made: ended, count, edges at the end -/
def fdC (f : Nat → Int32) (q T e : Int) : Nat → Int32 := up (up (up f 13 (J q)) 12 (J T)) 15 (J e)
theorem up_up {f : Nat → Int32} {k : Nat} {x y : Int32} : up (up f k x) k y = up f k y := by
  funext j
  unfold up
  split <;> rfl
theorem up_self {f : Nat → Int32} {k : Nat} : up f k (f k) = f := by
  funext j
  unfold up
  split
  · rename_i h; rw [h]
  · rfl
theorem fd_x {f f' : Nat → Int32} (h : ∀ k, k < 11 ∨ 15 < k → f' k = f k) {k j : Nat} {x : Int32} (hj : 11 ≤ j ∧ j ≤ 15) : ∀ k, k < 11 ∨ 15 < k → up f' j x k = f k := by
  intro k hk
  rw [up_ne (by omega)]
  exact h k hk
end LOOPS
