/-! The signal's edges. 0 period, 1 next edge, 2 edges, 3 outputs, 4 prescale, 5 prescaled, 6 edges when set, 7 outputs when set, 8 segments, 9 came. -/
section EDGES
def egZ (g : Nat → Int) : Nat → Int := fun k => match k with
  | 1 => g 1 + g 0
  | 2 => g 2 + 1
  | 3 => if g 5 + 1 < g 4 then g 3 else g 3 + 1
  | 5 => if g 5 + 1 < g 4 then g 5 + 1 else 0
  | k => g k
def egN : Nat → (Nat → Int) → (Nat → Int)
  | 0, g => g
  | n + 1, g => egZ (egN n g)
theorem egN_add (m n : Nat) (g : Nat → Int) : egN (m + n) g = egN n (egN m g) := by
  induction n with
  | zero => rfl
  | succ k ih => show egZ (egN (m + k) g) = egZ (egN k (egN m g)); rw [ih]
def epZ (n : Int) (g : Nat → Int) : Nat → Int := fun k => match k with
  | 1 => g 1 + n * g 0
  | 2 => g 2 + n
  | 3 => g 3 + (g 5 + n) / g 4
  | 5 => (g 5 + n) % g 4
  | k => g k
theorem egN_ep {g : Nat → Int} (h5 : 0 ≤ g 5 ∧ g 5 < g 4) : ∀ n : Nat, egN n g = epZ n g
  | 0 => by
    funext k
    match k with
    | 0 => rfl
    | 1 => show g 1 = g 1 + ((0 : Nat) : Int) * g 0; simp
    | 2 => show g 2 = g 2 + ((0 : Nat) : Int); simp
    | 3 => show g 3 = g 3 + (g 5 + ((0 : Nat) : Int)) / g 4; rw [show g 5 + ((0 : Nat) : Int) = g 5 by simp, Int.ediv_eq_zero_of_lt h5.1 h5.2]; simp
    | 4 => rfl
    | 5 => show g 5 = (g 5 + ((0 : Nat) : Int)) % g 4; rw [show g 5 + ((0 : Nat) : Int) = g 5 by simp, Int.emod_eq_of_lt h5.1 h5.2]
    | j + 6 => rfl
  | n + 1 => by
    show egZ (egN n g) = _
    rw [egN_ep h5 n]
    have hp : 0 < g 4 := by omega
    have hm := Int.mul_ediv_add_emod (g 5 + n) (g 4)
    have hm1 := Int.emod_nonneg (g 5 + n) (Int.ne_of_gt hp)
    have hm2 := Int.emod_lt_of_pos (g 5 + n) hp
    have e0 : ((n + 1 : Nat) : Int) * g 0 = (n : Int) * g 0 + g 0 := by rw [show ((n + 1 : Nat) : Int) = (n : Int) + 1 from rfl, Int.add_mul, Int.one_mul]
    have ec : ((n + 1 : Nat) : Int) = (n : Int) + 1 := rfl
    have key : (g 5 + ((n : Int) + 1)) / g 4 = (if (g 5 + n) % g 4 + 1 < g 4 then (g 5 + n) / g 4 else (g 5 + n) / g 4 + 1) ∧ (g 5 + ((n : Int) + 1)) % g 4 = (if (g 5 + n) % g 4 + 1 < g 4 then (g 5 + n) % g 4 + 1 else 0) := by
      by_cases h : (g 5 + n) % g 4 + 1 < g 4
      · rw [if_pos h, if_pos h]
        exact (Int.ediv_emod_unique hp).mpr ⟨by omega, by omega, h⟩
      · rw [if_neg h, if_neg h]
        refine (Int.ediv_emod_unique hp).mpr ⟨?_, by omega, hp⟩
        rw [Int.mul_add, Int.mul_one]
        omega
    funext k
    match k with
    | 0 => rfl
    | 1 => show g 1 + (n : Int) * g 0 + g 0 = g 1 + ((n + 1 : Nat) : Int) * g 0; rw [e0]; omega
    | 2 => show g 2 + (n : Int) + 1 = g 2 + ((n + 1 : Nat) : Int); omega
    | 3 =>
      show (if (g 5 + n) % g 4 + 1 < g 4 then g 3 + (g 5 + n) / g 4 else g 3 + (g 5 + n) / g 4 + 1) = g 3 + (g 5 + ((n + 1 : Nat) : Int)) / g 4
      rw [ec, key.1]
      split <;> omega
    | 4 => rfl
    | 5 =>
      show (if (g 5 + n) % g 4 + 1 < g 4 then (g 5 + n) % g 4 + 1 else 0) = (g 5 + ((n + 1 : Nat) : Int)) % g 4
      rw [ec, key.2]
    | j + 6 => rfl
/-- so many edges come up to T -/
def edN (T : Int) (g : Nat → Int) : Int := if g 1 ≠ -1 ∧ g 1 ≤ T ∧ 0 < g 0 then (T - g 1) / g 0 + 1 else 0
end EDGES
