/-! Numbers: ints as Int, with bounds; rows of memory. -/
section NUM
theorem tJ {z : Int} (h : -2147483648 ≤ z := by decide) (h2 : z < 2147483648 := by decide) : (J z).toInt = z := J_toInt h h2
theorem i_bm {z : Int} (h : -2147483648 ≤ z) (h2 : z < 2147483648) : z.bmod 4294967296 = z := Int.bmod_eq_of_le (by omega) (by omega)
theorem i_add {x y : Int32} (h : -2147483648 ≤ x.toInt + y.toInt) (h2 : x.toInt + y.toInt < 2147483648) : (x + y).toInt = x.toInt + y.toInt := by
  rw [Int32.toInt_add]; exact i_bm h h2
theorem i_sub {x y : Int32} (h : -2147483648 ≤ x.toInt - y.toInt) (h2 : x.toInt - y.toInt < 2147483648) : (x - y).toInt = x.toInt - y.toInt := by
  rw [Int32.toInt_sub]; exact i_bm h h2
theorem i_mul {x y : Int32} (h : -2147483648 ≤ x.toInt * y.toInt) (h2 : x.toInt * y.toInt < 2147483648) : (x * y).toInt = x.toInt * y.toInt := by
  rw [Int32.toInt_mul]; exact i_bm h h2
theorem i_neg {x : Int32} (h : -2147483648 < x.toInt) : (-x).toInt = -x.toInt := by
  have := Int32.toInt_lt x
  rw [Int32.toInt_neg]; exact i_bm (by omega) (by omega)
theorem i_rng (x : Int32) : -2147483648 ≤ x.toInt ∧ x.toInt < 2147483648 := ⟨Int32.le_toInt x, Int32.toInt_lt x⟩
theorem i_div {x y : Int32} (h : 0 < y.toInt) : (x / y).toInt = x.toInt.tdiv y.toInt := by
  have hx := i_rng x
  rw [Int32.toInt_div]
  refine i_bm ?_ ?_
  · by_cases h0 : 0 ≤ x.toInt
    · have := Int.tdiv_nonneg h0 (Int.le_of_lt h); omega
    · have e : x.toInt.tdiv y.toInt = -((-x.toInt).tdiv y.toInt) := by rw [Int.neg_tdiv, Int.neg_neg]
      have := Int.tdiv_le_self (a := -x.toInt) y.toInt (by omega)
      omega
  · by_cases h0 : 0 ≤ x.toInt
    · have := Int.tdiv_le_self (a := x.toInt) y.toInt h0; omega
    · have e : x.toInt.tdiv y.toInt = -((-x.toInt).tdiv y.toInt) := by rw [Int.neg_tdiv, Int.neg_neg]
      have := Int.tdiv_nonneg (a := -x.toInt) (by omega) (Int.le_of_lt h)
      omega
theorem i_lt {x y : Int32} : x < y ↔ x.toInt < y.toInt := Int32.lt_iff_toInt_lt
theorem i_eq {x y : Int32} : x = y ↔ x.toInt = y.toInt := Int32.toInt_inj.symm
theorem i_clamp {x : Int32} (h : 0 ≤ x.toInt) : (x.toNatClampNeg : Int) = x.toInt := by
  unfold Int32.toNatClampNeg
  show ((x.toInt.toNat : Nat) : Int) = _
  omega
-- rows of memory
/-- the whole row of ints at an address -/
def wr (v : vl) (a : Nat) (f : Nat → Int32) : vl := (fun a' => if a' = a then f else v.1 a', v.2)
def rw (v : vl) (a : Nat) : Nat → Int32 := v.1 a
def up (f : Nat → Int32) (k : Nat) (x : Int32) : Nat → Int32 := fun j => if j = k then x else f j
theorem gi_rw {v : vl} {a k : Nat} : gi v a k = rw v a k := rfl
theorem si_wr {v : vl} {a k : Nat} {x : Int32} : si v a k x = wr v a (up (rw v a) k x) := by
  unfold si wr up2 up rw
  refine Prod.ext ?_ rfl
  funext a' k'
  show (if a' = a ∧ k' = k then x else v.1 a' k') = (if a' = a then _ else v.1 a') k'
  by_cases h : a' = a
  · subst h
    by_cases h2 : k' = k
    · simp [h2]
    · simp [h2]
  · simp [h]
theorem rw_wr {v : vl} {a : Nat} {f : Nat → Int32} : rw (wr v a f) a = f := if_pos rfl
theorem rw_wr_ne {v : vl} {a b : Nat} {f : Nat → Int32} (h : b ≠ a) : rw (wr v a f) b = rw v b := if_neg h
theorem wr_wr {v : vl} {a : Nat} {f g : Nat → Int32} : wr (wr v a f) a g = wr v a g := by
  unfold wr
  refine Prod.ext ?_ rfl
  funext a'
  show (if a' = a then g else (if a' = a then f else v.1 a')) = _
  by_cases h : a' = a <;> simp [h]
theorem wr_comm {v : vl} {a b : Nat} {f g : Nat → Int32} (h : a ≠ b) : wr (wr v a f) b g = wr (wr v b g) a f := by
  unfold wr
  refine Prod.ext ?_ rfl
  funext a'
  show (if a' = b then g else (if a' = a then f else v.1 a')) = (if a' = a then f else (if a' = b then g else v.1 a'))
  by_cases h1 : a' = b
  · subst h1; simp [Ne.symm h]
  · simp [h1]
theorem wr_self {v : vl} {a : Nat} : wr v a (rw v a) = v := by
  unfold wr rw
  refine Prod.ext ?_ rfl
  funext a'
  show (if a' = a then v.1 a else v.1 a') = v.1 a'
  by_cases h : a' = a
  · subst h; simp
  · simp [h]
theorem up_same {f : Nat → Int32} {k : Nat} {x : Int32} : up f k x k = x := if_pos rfl
theorem up_ne {f : Nat → Int32} {k j : Nat} {x : Int32} (h : j ≠ k) : up f k x j = f j := if_neg h
theorem lt_def {β α : Type} (x : β) (f : β → α) : lt x f = f x := rfl
theorem grd_true {α : Type} {P : Prop} (t : Option α) (h : P) : grd P t = t := grd_pos h
-- Math
theorem ma_min (x y : Int32) (S : shp) (v : vl) : F_ma_min x y S v = some (if y < x then y else x) := by
  unfold F_ma_min; split <;> rfl
theorem ma_max (x y : Int32) (S : shp) (v : vl) : F_ma_max x y S v = some (if x < y then y else x) := by
  unfold F_ma_max; split <;> rfl
end NUM
