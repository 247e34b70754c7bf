/-! What is printed: digits, and the model's writing. -/
section DIGITS
variable {S S' : shp} {v w v' : vl} {a m N n l : Nat} {O : Nat → Int} {b : Int32}
def pt : Nat → Nat
  | 0 => 1
  | k + 1 => 10 * pt k
theorem pt_s {k : Nat} : pt (k + 1) = 10 * pt k := rfl
theorem pt_pos : ∀ k : Nat, 1 ≤ pt k
  | 0 => Nat.le_refl _
  | k + 1 => by
    have := pt_pos k
    rw [pt_s]
    omega
theorem pt_mono : ∀ {k j : Nat}, k ≤ j → pt k ≤ pt j
  | k, 0, h => by
    have : k = 0 := by omega
    rw [this]
    exact Nat.le_refl _
  | k, j + 1, h => by
    by_cases z : k = j + 1
    · rw [z]
      exact Nat.le_refl _
    · have := pt_mono (k := k) (j := j) (by omega)
      rw [pt_s]
      omega
/-- how many digits -/
def ndR : Nat → Nat → Nat → Nat → Nat
  | 0, i, _, _ => i
  | k + 1, i, pw, y => if y < pw then i else ndR k (i + 1) (10 * pw) y
theorem ndR_s {k i pw y : Nat} : ndR (k + 1) i pw y = if y < pw then i else ndR k (i + 1) (10 * pw) y := rfl
def nd (y : Nat) : Nat := ndR 9 1 10 y
def isD (y d : Nat) : Prop := y < pt d ∧ 1 ≤ d ∧ (d = 1 ∨ pt (d - 1) ≤ y)
theorem ndR_B {y : Nat} : ∀ (k i : Nat), 1 ≤ i → (i = 1 ∨ pt (i - 1) ≤ y) → y < pt (i + k) → isD y (ndR k i (pt i) y) ∧ ndR k i (pt i) y ≤ i + k
  | 0, i, h1, h2, h3 => ⟨⟨h3, h1, h2⟩, Nat.le_refl _⟩
  | k + 1, i, h1, h2, h3 => by
    rw [ndR_s]
    by_cases z : y < pt i
    · rw [if_pos z]
      exact ⟨⟨z, h1, h2⟩, by omega⟩
    · rw [if_neg z]
      have := ndR_B (y := y) k (i + 1) (by omega) (Or.inr (by rw [Nat.add_sub_cancel]; omega)) (by rw [show i + 1 + k = i + (k + 1) by omega]; exact h3)
      rw [pt_s] at this
      exact ⟨this.1, by omega⟩
theorem nd_B {y : Nat} (h : y < 10000000000) : isD y (nd y) ∧ nd y ≤ 10 := by
  have := ndR_B (y := y) 9 1 (Nat.le_refl _) (Or.inl rfl) (show y < pt 10 from h)
  exact this
/-- the j-th digit from behind -/
def dg (y j : Nat) : Nat := y / pt j % 10
theorem dg_2 {y j : Nat} : dg (y / 100) j = dg y (j + 2) := by
  unfold dg
  rw [Nat.div_div_eq_div_mul, show 100 * pt j = pt (j + 2) by rw [pt_s, pt_s]; omega]
/-- a number's text behind l, its places from the lim-th on hidden -/
def nuT (O : Nat → Int) (l lim y d : Nat) : Nat → Int := fun i => if l ≤ i ∧ i < l + d then (if i - l < lim then ((48 + dg y (l + d - 1 - i) : Nat) : Int) else 120) else O i
/-- a signed number's -/
def sgT (O : Nat → Int) (l : Nat) (x : Int) : Nat → Int := if x < 0 then nuT (put1 O l 45) (l + 1) 10 x.natAbs (nd x.natAbs) else nuT O l 10 x.natAbs (nd x.natAbs)
def sgL' (x : Int) : Nat := (if x < 0 then 1 else 0) + nd x.natAbs
-- the model's writing
end DIGITS
