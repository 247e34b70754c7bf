/-! Many ticks. -/
section TICKS
def tkN : Nat → (Nat → Int) → (Nat → Int)
  | 0, c => c
  | n + 1, c => tkZ (tkN n c)
theorem tkN_add (m n : Nat) (c : Nat → Int) : tkN (m + n) c = tkN n (tkN m c) := by
  induction n with
  | zero => rfl
  | succ k ih => show tkZ (tkN (m + k) c) = tkZ (tkN k (tkN m c)); rw [ih]
/-- from an aging on: so many ticks at once -/
def lpZ (i : Int) (c : Nat → Int) : Nat → Int := fun k => match k with
  | 3 => (c 3 + i * c 1) % 1000
  | 4 => c 4 + (i * c 0 + (c 3 + i * c 1) / 1000)
  | 5 => c 5 + i
  | 6 => c 4 + ((i - 1) * c 0 + (c 3 + (i - 1) * c 1) / 1000)
  | k => c k
theorem tkN_lp {c : Nat → Int} (h5 : c 5 % 100 = 0) (h3 : 0 ≤ c 3 ∧ c 3 < 1000) : ∀ i : Nat, i < 99 → tkN (i + 1) c = lpZ ((i : Int) + 1) c := by
  intro i
  induction i with
  | zero =>
    intro _
    have hd : tkD c = c 1 := if_neg (by omega)
    funext k
    show tkZ c k = _
    match k with
    | 0 => rfl
    | 1 => exact hd
    | 2 => rfl
    | 3 => show (c 3 + tkD c) % 1000 = (c 3 + (((0 : Nat) : Int) + 1) * c 1) % 1000; rw [hd]; simp
    | 4 => show c 4 + c 0 + (c 3 + tkD c) / 1000 = c 4 + ((((0 : Nat) : Int) + 1) * c 0 + (c 3 + (((0 : Nat) : Int) + 1) * c 1) / 1000); rw [hd]; simp; omega
    | 5 => show c 5 + 1 = c 5 + (((0 : Nat) : Int) + 1); simp
    | 6 => show c 4 = c 4 + ((((0 : Nat) : Int) + 1 - 1) * c 0 + (c 3 + (((0 : Nat) : Int) + 1 - 1) * c 1) / 1000); simp; omega
    | j + 7 => rfl
  | succ i ih =>
    intro hi
    show tkZ (tkN (i + 1) c) = _
    rw [ih (by omega)]
    have hd : tkD (lpZ ((i : Int) + 1) c) = c 1 := by
      refine if_neg ?_
      show ¬ (c 5 + ((i : Int) + 1) + 1) % 100 = 0
      omega
    have e0 : ((i : Int) + 1 + 1) * c 0 = ((i : Int) + 1) * c 0 + c 0 := by rw [Int.add_mul _ 1, Int.one_mul]
    have e1 : ((i : Int) + 1 + 1) * c 1 = ((i : Int) + 1) * c 1 + c 1 := by rw [Int.add_mul _ 1, Int.one_mul]
    funext k
    match k with
    | 0 => rfl
    | 1 => exact hd
    | 2 => rfl
    | 3 =>
      show ((c 3 + ((i : Int) + 1) * c 1) % 1000 + tkD (lpZ ((i : Int) + 1) c)) % 1000 = (c 3 + (((i + 1 : Nat) : Int) + 1) * c 1) % 1000
      rw [hd, show ((i + 1 : Nat) : Int) = (i : Int) + 1 from rfl, e1]
      generalize ((i : Int) + 1) * c 1 = t
      omega
    | 4 =>
      show c 4 + (((i : Int) + 1) * c 0 + (c 3 + ((i : Int) + 1) * c 1) / 1000) + c 0 + ((c 3 + ((i : Int) + 1) * c 1) % 1000 + tkD (lpZ ((i : Int) + 1) c)) / 1000 = c 4 + ((((i + 1 : Nat) : Int) + 1) * c 0 + (c 3 + (((i + 1 : Nat) : Int) + 1) * c 1) / 1000)
      rw [hd, show ((i + 1 : Nat) : Int) = (i : Int) + 1 from rfl, e1, e0]
      generalize ((i : Int) + 1) * c 1 = t
      generalize ((i : Int) + 1) * c 0 = u
      omega
    | 5 => show c 5 + ((i : Int) + 1) + 1 = c 5 + (((i + 1 : Nat) : Int) + 1); omega
    | 6 =>
      show c 4 + (((i : Int) + 1) * c 0 + (c 3 + ((i : Int) + 1) * c 1) / 1000) = c 4 + ((((i + 1 : Nat) : Int) + 1 - 1) * c 0 + (c 3 + (((i + 1 : Nat) : Int) + 1 - 1) * c 1) / 1000)
      rw [show (((i + 1 : Nat) : Int) + 1 - 1) = (i : Int) + 1 by omega]
    | j + 7 => rfl
/-- the class's leap, but for the latest edge -/
theorem tkN_99 {c : Nat → Int} (h5 : c 5 % 100 = 0) (h3 : 0 ≤ c 3 ∧ c 3 < 1000) : tkN 99 c = lpZ 99 c := tkN_lp h5 h3 98 (by decide)
/-- the latest edge has no say in what comes -/
theorem tkZ_6 {c d : Nat → Int} (h : ∀ k, k ≠ 6 → c k = d k) : tkZ c = tkZ d := by
  have hd : tkD c = tkD d := by unfold tkD; rw [h 5 (by decide), h 1 (by decide), h 2 (by decide)]
  funext k
  match k with
  | 0 => exact h 0 (by decide)
  | 1 => exact hd
  | 2 => exact h 2 (by decide)
  | 3 => show (c 3 + tkD c) % 1000 = (d 3 + tkD d) % 1000; rw [h 3 (by decide), hd]
  | 4 => show c 4 + c 0 + (c 3 + tkD c) / 1000 = d 4 + d 0 + (d 3 + tkD d) / 1000; rw [h 4 (by decide), h 0 (by decide), h 3 (by decide), hd]
  | 5 => show c 5 + 1 = d 5 + 1; rw [h 5 (by decide)]
  | 6 => exact h 4 (by decide)
  | j + 7 => exact h (j + 7) (by omega)
end TICKS
