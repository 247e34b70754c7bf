/-! Many ticks. -/
section TICKS
def tkN : Nat → (Nat → Int) → (Nat → Int)
  | 0, c => c
  | n + 1, c => tkZ (tkN n c)
theorem tkN_add (m n : Nat) (c : Nat → Int) : tkN (m + n) c = tkN n (tkN m c) := by
  induction n with
  | zero => rfl
  | succ k ih => show tkZ (tkN (m + k) c) = tkZ (tkN k (tkN m c)); rw [ih]
/-- from an aging on: so many ticks at once -/
def lpZ (i : Int) (c : Nat → Int) : Nat → Int := fun k => match k with
  | 3 => (c 3 + i * c 1) % 1000
  | 4 => c 4 + (i * c 0 + (c 3 + i * c 1) / 1000)
  | 5 => c 5 + i
  | 6 => c 4 + ((i - 1) * c 0 + (c 3 + (i - 1) * c 1) / 1000)
  | k => c k
theorem tkN_lp {c : Nat → Int} (h5 : c 5 % 100 = 0) (h3 : 0 ≤ c 3 ∧ c 3 < 1000) : ∀ i : Nat, i < 99 → tkN (i + 1) c = lpZ ((i : Int) + 1) c := by
  intro i
  induction i with
  | zero =>
    intro _
    have hd : tkD c = c 1 := if_neg (by omega)
    funext k
    show tkZ c k = _
    match k with
    | 0 => rfl
    | 1 => exact hd
    | 2 => rfl
    | 3 => show (c 3 + tkD c) % 1000 = (c 3 + (((0 : Nat) : Int) + 1) * c 1) % 1000; rw [hd]; simp
    | 4 => show c 4 + c 0 + (c 3 + tkD c) / 1000 = c 4 + ((((0 : Nat) : Int) + 1) * c 0 + (c 3 + (((0 : Nat) : Int) + 1) * c 1) / 1000); rw [hd]; simp; omega
    | 5 => show c 5 + 1 = c 5 + (((0 : Nat) : Int) + 1); simp
    | 6 => show c 4 = c 4 + ((((0 : Nat) : Int) + 1 - 1) * c 0 + (c 3 + (((0 : Nat) : Int) + 1 - 1) * c 1) / 1000); simp; omega
    | j + 7 => rfl
  | succ i ih =>
    intro hi
    show tkZ (tkN (i + 1) c) = _
    rw [ih (by omega)]
    have hd : tkD (lpZ ((i : Int) + 1) c) = c 1 := by
      refine if_neg ?_
      show ¬ (c 5 + ((i : Int) + 1) + 1) % 100 = 0
      omega
    have e0 : ((i : Int) + 1 + 1) * c 0 = ((i : Int) + 1) * c 0 + c 0 := by rw [Int.add_mul _ 1, Int.one_mul]
    have e1 : ((i : Int) + 1 + 1) * c 1 = ((i : Int) + 1) * c 1 + c 1 := by rw [Int.add_mul _ 1, Int.one_mul]
    funext k
    match k with
    | 0 => rfl
    | 1 => exact hd
    | 2 => rfl
    | 3 =>
      show ((c 3 + ((i : Int) + 1) * c 1) % 1000 + tkD (lpZ ((i : Int) + 1) c)) % 1000 = (c 3 + (((i + 1 : Nat) : Int) + 1) * c 1) % 1000
      rw [hd, show ((i + 1 : Nat) : Int) = (i : Int) + 1 from rfl, e1]
      generalize ((i : Int) + 1) * c 1 = t
      omega
    | 4 =>
      show c 4 + (((i : Int) + 1) * c 0 + (c 3 + ((i : Int) + 1) * c 1) / 1000) + c 0 + ((c 3 + ((i : Int) + 1) * c 1) % 1000 + tkD (lpZ ((i : Int) + 1) c)) / 1000 = c 4 + ((((i + 1 : Nat) : Int) + 1) * c 0 + (c 3 + (((i + 1 : Nat) : Int) + 1) * c 1) / 1000)
      rw [hd, show ((i + 1 : Nat) : Int) = (i : Int) + 1 from rfl, e1, e0]
      generalize ((i : Int) + 1) * c 1 = t
      generalize ((i : Int) + 1) * c 0 = u
      omega
    | 5 => show c 5 + ((i : Int) + 1) + 1 = c 5 + (((i + 1 : Nat) : Int) + 1); omega
    | 6 =>
      show c 4 + (((i : Int) + 1) * c 0 + (c 3 + ((i : Int) + 1) * c 1) / 1000) = c 4 + ((((i + 1 : Nat) : Int) + 1 - 1) * c 0 + (c 3 + (((i + 1 : Nat) : Int) + 1 - 1) * c 1) / 1000)
      rw [show (((i + 1 : Nat) : Int) + 1 - 1) = (i : Int) + 1 by omega]
    | j + 7 => rfl
/-- the class's leap, but for the latest edge -/
theorem tkN_99 {c : Nat → Int} (h5 : c 5 % 100 = 0) (h3 : 0 ≤ c 3 ∧ c 3 < 1000) : tkN 99 c = lpZ 99 c := tkN_lp h5 h3 98 (by decide)
/-- the latest edge has no say in what comes -/
theorem tkZ_6 {c d : Nat → Int} (h : ∀ k, k ≠ 6 → c k = d k) : tkZ c = tkZ d := by
  have hd : tkD c = tkD d := by unfold tkD; rw [h 5 (by decide), h 1 (by decide), h 2 (by decide)]
  funext k
  match k with
  | 0 => exact h 0 (by decide)
  | 1 => exact hd
  | 2 => exact h 2 (by decide)
  | 3 => show (c 3 + tkD c) % 1000 = (d 3 + tkD d) % 1000; rw [h 3 (by decide), hd]
  | 4 => show c 4 + c 0 + (c 3 + tkD c) / 1000 = d 4 + d 0 + (d 3 + tkD d) / 1000; rw [h 4 (by decide), h 0 (by decide), h 3 (by decide), hd]
  | 5 => show c 5 + 1 = d 5 + 1; rw [h 5 (by decide)]
  | 6 => exact h 4 (by decide)
  | j + 7 => exact h (j + 7) (by omega)
/-- what every clock keeps -/
def ckI (c : Nat → Int) : Prop := (10 ≤ c 0 ∧ c 0 ≤ 999) ∧ (-99 ≤ c 1 ∧ c 1 ≤ 99) ∧ (-1 ≤ c 2 ∧ c 2 ≤ 1) ∧ (0 ≤ c 3 ∧ c 3 < 1000) ∧ 0 ≤ c 4 ∧ 0 ≤ c 5
theorem ckI_B {c : Nat → Int} (h : ckI c) (h4 : c 4 < 1000000000) (h5 : c 5 < 1000000000) : ckB c := ⟨h.1, h.2.1, h.2.2.1, h.2.2.2.1, ⟨h.2.2.2.2.1, h4⟩, h.2.2.2.2.2, h5⟩
theorem tkD_I {c : Nat → Int} (h : ckI c) : -99 ≤ tkD c ∧ tkD c ≤ 99 := by
  obtain ⟨-, h1, -⟩ := h
  unfold tkD clampZ
  split
  · split
    · omega
    · split <;> omega
  · exact h1
theorem tkZ_inv {c : Nat → Int} (h : ckI c) : ckI (tkZ c) ∧ c 4 + 9 ≤ tkZ c 4 ∧ tkZ c 4 ≤ c 4 + 1000 := by
  have hD := tkD_I h
  obtain ⟨b0, b1, b2, b3, b4, b5⟩ := h
  have e4 : tkZ c 4 = c 4 + c 0 + (c 3 + tkD c) / 1000 := rfl
  refine ⟨⟨b0, hD, b2, ?_, ?_, ?_⟩, ?_, ?_⟩
  · show 0 ≤ (c 3 + tkD c) % 1000 ∧ (c 3 + tkD c) % 1000 < 1000; omega
  · rw [e4]; omega
  · show 0 ≤ c 5 + 1; omega
  · rw [e4]; omega
  · rw [e4]; omega
theorem tkN_inv {c : Nat → Int} (h : ckI c) : ∀ n : Nat, ckI (tkN n c) ∧ (tkN n c) 5 = c 5 + n ∧ c 4 + 9 * n ≤ (tkN n c) 4 ∧ (tkN n c) 4 ≤ c 4 + 1000 * n ∧ (tkN n c) 0 = c 0 ∧ (tkN n c) 2 = c 2 ∧ ∀ j, (tkN n c) (j + 7) = c (j + 7)
  | 0 => ⟨h, (Int.add_zero _).symm, by show c 4 + 9 * ((0 : Nat) : Int) ≤ c 4; omega, by show c 4 ≤ c 4 + 1000 * ((0 : Nat) : Int); omega, rfl, rfl, fun _ => rfl⟩
  | n + 1 => by
    obtain ⟨g1, g2, g3, g4, g5, g6, g7⟩ := tkN_inv h n
    obtain ⟨k1, k2, k3⟩ := tkZ_inv g1
    refine ⟨k1, ?_, ?_, ?_, g5, g6, g7⟩
    · show (tkN n c) 5 + 1 = c 5 + ((n + 1 : Nat) : Int); omega
    · show c 4 + 9 * ((n + 1 : Nat) : Int) ≤ tkZ (tkN n c) 4; omega
    · show tkZ (tkN n c) 4 ≤ c 4 + 1000 * ((n + 1 : Nat) : Int); omega
theorem tkN_mono {c : Nat → Int} (h : ckI c) {m n : Nat} (hmn : m ≤ n) : (tkN m c) 4 + 9 * ((n - m : Nat) : Int) ≤ (tkN n c) 4 := by
  have e : tkN n c = tkN (n - m) (tkN m c) := by rw [← tkN_add]; congr 1; omega
  rw [e]
  exact (tkN_inv (tkN_inv h m).1 (n - m)).2.2.1
theorem tkN_rB {c : Nat → Int} (h : ckI c) (hr : rB c) : ∀ n : Nat, c 4 + 1000 * n < 2147483648 → c 5 + n < 2147483648 → rB (tkN n c) := by
  intro n h4 h5 k
  obtain ⟨g1, g2, g3, g4, g5, g6, g7⟩ := tkN_inv h n
  obtain ⟨b0, b1, b2, b3, b4, b5⟩ := g1
  match k with
  | 0 => omega
  | 1 => omega
  | 2 => omega
  | 3 => omega
  | 4 => omega
  | 5 => omega
  | 6 =>
    match n with
    | 0 => exact hr 6
    | m + 1 =>
      have q := tkN_inv h m
      show _ ≤ (tkN m c) 4 ∧ (tkN m c) 4 < _
      have := q.1.2.2.2.2.1
      have := q.2.2.2.1
      omega
  | j + 7 => rw [g7]; exact hr (j + 7)
end TICKS
