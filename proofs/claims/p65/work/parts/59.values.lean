/-! Values and digits. -/
section VALUES
def valZ (o c st k P : Int) : Int := o * P * 1000000000 / (c * st * (1000 + k))
theorem l_bm {z : Int} (h : -9223372036854775808 ≤ z) (h2 : z < 9223372036854775808) : z.bmod 18446744073709551616 = z := Int.bmod_eq_of_le (by omega) (by omega)
theorem JL_toInt {z : Int} (h : -9223372036854775808 ≤ z) (h2 : z < 9223372036854775808) : (JL z).toInt = z := by
  unfold JL
  exact Int64.toInt_ofInt_of_le (by omega) (by omega)
theorem l_mul {x y : Int64} (h : -9223372036854775808 ≤ x.toInt * y.toInt) (h2 : x.toInt * y.toInt < 9223372036854775808) : (x * y).toInt = x.toInt * y.toInt := by
  rw [Int64.toInt_mul]; exact l_bm h h2
theorem l_div {x y : Int64} (hx : 0 ≤ x.toInt) (hy : 0 < y.toInt) : (x / y).toInt = x.toInt / y.toInt := by
  have h2 := Int64.toInt_lt x
  have e := Int.tdiv_eq_ediv_of_nonneg (b := y.toInt) hx
  have e1 := Int.ediv_nonneg hx (Int.le_of_lt hy)
  have e2 := Int.ediv_le_self y.toInt hx
  rw [Int64.toInt_div, e]
  exact l_bm (by omega) (by omega)
theorem l_J (y : Int64) : Int64.toInt32 y = J y.toInt := by
  refine i_eq.mpr ?_
  unfold J
  rw [Int64.toInt_toInt32, Int32.toInt_ofInt]
theorem val_prod {o c st k P : Int} (hc : 1 ≤ c ∧ c ≤ 2100000) (hs : 10 ≤ st ∧ st ≤ 999) (hk : -99 ≤ k ∧ k ≤ 99) (ho : 0 ≤ o ∧ o ≤ 2100000) (hP : 1 ≤ P ∧ P ≤ 16) :
    (10 ≤ c * st ∧ c * st ≤ 2100000 * 999) ∧ (9010 ≤ c * st * (1000 + k) ∧ c * st * (1000 + k) ≤ 2100000 * 999 * 1099) ∧ (0 ≤ o * P ∧ o * P ≤ 2100000 * 16) := by
  have a1 : 1 * 10 ≤ c * st := Int.mul_le_mul hc.1 hs.1 (by omega) (by omega)
  have a2 : c * st ≤ 2100000 * 999 := Int.mul_le_mul hc.2 hs.2 (by omega) (by omega)
  have a3 : 10 * 901 ≤ c * st * (1000 + k) := Int.mul_le_mul (by omega) (by omega) (by omega) (by omega)
  have a4 : c * st * (1000 + k) ≤ (2100000 * 999) * 1099 := Int.mul_le_mul a2 (by omega) (by omega) (by omega)
  have a5 : 0 ≤ o * P := Int.mul_nonneg ho.1 (by omega)
  have a6 : o * P ≤ 2100000 * 16 := Int.mul_le_mul ho.2 hP.2 (by omega) (by omega)
  exact ⟨⟨by omega, a2⟩, ⟨by omega, by omega⟩, a5, a6⟩
theorem val_by {c st k : Int} (hc : 1 ≤ c ∧ c ≤ 2100000) (hs : 10 ≤ st ∧ st ≤ 999) (hk : -99 ≤ k ∧ k ≤ 99) : (Int32.toInt64 (J c) * Int32.toInt64 (J st) * Int32.toInt64 (J 1000 + J k)).toInt = c * st * (1000 + k) := by
  obtain ⟨⟨a1, a2⟩, ⟨a3, a4⟩, -⟩ := val_prod (o := 0) (P := 1) hc hs hk (by omega) (by omega)
  have tc : (J c).toInt = c := J_toInt (by omega) (by omega)
  have ts : (J st).toInt = st := J_toInt (by omega) (by omega)
  have tk : (J (1000 + k)).toInt = 1000 + k := J_toInt (by omega) (by omega)
  have e1 : (Int32.toInt64 (J c) * Int32.toInt64 (J st)).toInt = c * st := by
    rw [l_mul, Int32.toInt_toInt64, Int32.toInt_toInt64, tc, ts] <;> (rw [Int32.toInt_toInt64, Int32.toInt_toInt64, tc, ts]; omega)
  rw [← J_add, l_mul, e1, Int32.toInt_toInt64, tk] <;> (rw [e1, Int32.toInt_toInt64, tk]; omega)
theorem val_of {o c st k P : Int} {X Y : Int64} (hX : X.toInt = o * P) (hY : Y.toInt = c * st * (1000 + k)) (hc : 1 ≤ c ∧ c ≤ 2100000) (hs : 10 ≤ st ∧ st ≤ 999) (hk : -99 ≤ k ∧ k ≤ 99) (ho : 0 ≤ o ∧ o ≤ 2100000) (hP : 1 ≤ P ∧ P ≤ 16) :
    Int64.toInt32 (X * JL 1000000000 / Y) = J (valZ o c st k P) := by
  obtain ⟨⟨a1, a2⟩, ⟨a3, a4⟩, a5, a6⟩ := val_prod hc hs hk ho hP
  have tb : (JL 1000000000).toInt = 1000000000 := JL_toInt (by decide) (by decide)
  have e1 : (X * JL 1000000000).toInt = o * P * 1000000000 := by
    rw [l_mul, hX, tb] <;> (rw [hX, tb]; omega)
  rw [l_J, l_div (by rw [e1]; omega) (by rw [hY]; omega), e1, hY]
  rfl
theorem val_op {o P : Int} (ho : 0 ≤ o ∧ o ≤ 2100000) (hP : 1 ≤ P ∧ P ≤ 16) : (Int32.toInt64 (J o) * Int32.toInt64 (J P)).toInt = o * P := by
  have a5 : 0 ≤ o * P := Int.mul_nonneg ho.1 (by omega)
  have a6 : o * P ≤ 2100000 * 16 := Int.mul_le_mul ho.2 hP.2 (by omega) (by omega)
  have t1 : (J o).toInt = o := J_toInt (by omega) (by omega)
  have t2 : (J P).toInt = P := J_toInt (by omega) (by omega)
  rw [l_mul, Int32.toInt_toInt64, Int32.toInt_toInt64, t1, t2] <;> (rw [Int32.toInt_toInt64, Int32.toInt_toInt64, t1, t2]; omega)
theorem lg_pos {y : Int64} (h : 0 < y.toInt) : J 0 < lg_cmp y (JL 0) := by
  have t0 : (JL 0).toInt = 0 := JL_toInt (by decide) (by decide)
  unfold lg_cmp
  rw [if_pos (show y > JL 0 from Int64.lt_iff_toInt_lt.mpr (by rw [t0]; exact h))]
  decide
theorem st_valueOf {S : shp} {v : vl} {b : Nat} {h c g t p : Nat → Int} {o n k : Int} (hM : stM S v b h c g t p) (hs : 10 ≤ c 0 ∧ c 0 ≤ 999) (hP : 1 ≤ g 4 ∧ g 4 ≤ 16) (ho : 0 ≤ o ∧ o ≤ 2100000) (hn : 1 ≤ n ∧ n ≤ 2100000) (hk : -99 ≤ k ∧ k ≤ 99) :
    F_st_valueOf b (J o) (J n) (J k) S v = some (J (valZ o n (c 0) k (g 4))) := by
  obtain ⟨hl, hh, hcc, hgg⟩ := hM
  obtain ⟨k0, r6, k1, r7, l2, r8, k5⟩ := id hl
  have e0 : rw v (b + 1) 0 = J (c 0) := hcc 0 (by decide)
  have e4 : rw v (b + 2) 4 = J (g 4) := hgg.2.1 4 (by decide)
  obtain ⟨⟨a1, a2⟩, ⟨a3, a4⟩, a5, a6⟩ := val_prod hn hs hk ho hP
  have hY := val_by hn hs hk
  unfold F_st_valueOf
  rw [grd_true _ k0, r6]
  simp only [Option.bind_some]
  rw [grd_true _ k1, gi_rw, e0]
  simp only [lt_def]
  rw [if_pos (lg_pos (by rw [hY]; omega)), r7]
  simp only [Option.bind_some]
  rw [grd_true _ l2.1, grd_true _ (fun q => by
    have t0 : (0 : Int64).toInt = 0 := by decide
    rw [q, t0] at hY
    omega), gi_rw, e4, val_of (val_op ho hP) hY hn hs hk ho hP]
-- digits
/-- decimal digits of a number -/
def dgF : Nat → Int → Int
  | 0, _ => 0
  | n + 1, z => if 0 < z then dgF n (z / 10) + 1 else 0
def dgZ (z : Int) : Int := dgF 10 z
def p10 (n : Nat) : Int := ((10 ^ n : Nat) : Int)
theorem p10_s (n : Nat) : p10 (n + 1) = p10 n * 10 := by
  unfold p10
  rw [Nat.pow_succ, Int.natCast_mul]
  rfl
theorem p10_le {n : Nat} (h : n ≤ 10) : 1 ≤ p10 n ∧ p10 n ≤ 10000000000 := by
  have h1 : (10 : Nat) ^ n ≤ 10 ^ 10 := Nat.pow_le_pow_right (by decide) h
  have h2 : 0 < (10 : Nat) ^ n := Nat.pow_pos (by decide)
  have h3 : (10 : Nat) ^ 10 = 10000000000 := by decide
  unfold p10
  omega
theorem lg_neg {y z : Int64} : lg_cmp y z < J 0 ↔ y.toInt < z.toInt := by
  have t0 : (J 0).toInt = 0 := tJ
  have a1 : (1 : Int32).toInt = 1 := by decide
  have a0 : (0 : Int32).toInt = 0 := by decide
  have a2 : (-1 : Int32).toInt = -1 := by decide
  unfold lg_cmp
  rw [i_lt, t0]
  by_cases h1 : y > z
  · have := Int64.lt_iff_toInt_lt.mp h1
    rw [if_pos h1, a1]
    omega
  · rw [if_neg h1]
    have h1' : ¬ z.toInt < y.toInt := fun q => h1 (Int64.lt_iff_toInt_lt.mpr q)
    by_cases h2 : y = z
    · rw [if_pos h2, a0, h2]
      omega
    · have : y.toInt ≠ z.toInt := fun q => h2 (Int64.toInt_inj.mp q)
      rw [if_neg h2, a2]
      omega
theorem gc_digitsLoop {S : shp} {v : vl} {N : Nat} {x : Int} (hx : 0 ≤ x ∧ x < 2147483648) : ∀ (n f i : Nat) (d : Int), i + n = 10 → n ≤ f → K_gc_digitsOf_7 N (f + 1) S v (J x) (J d) (JL (p10 i)) (J i) = some (J (d + dgF n (x / p10 i)))
  | 0, f, i, d, hi, hf => by
    have i0 : i = 10 := by omega
    subst i0
    show Y_gc_digitsOf_7 N (K_gc_digitsOf_7 N f S v) S v (J x) (J d) (JL (p10 10)) (J ((10 : Nat) : Int)) = some (J (d + 0))
    unfold Y_gc_digitsOf_7
    rw [if_neg (by decide), Int.add_zero]
  | n + 1, f, i, d, hi, hf => by
    obtain ⟨b1, b2⟩ := p10_le (show i ≤ 10 by omega)
    have ti : (J (i : Int)).toInt = i := J_toInt (by omega) (by omega)
    have tx : (Int32.toInt64 (J x)).toInt = x := by rw [Int32.toInt_toInt64]; exact J_toInt (by omega) (by omega)
    have tp : (JL (p10 i)).toInt = p10 i := JL_toInt (by omega) (by omega)
    show Y_gc_digitsOf_7 N (K_gc_digitsOf_7 N f S v) S v (J x) (J d) (JL (p10 i)) (J i) = some (J (d + (if 0 < x / p10 i then dgF n (x / p10 i / 10) + 1 else 0)))
    unfold Y_gc_digitsOf_7
    rw [if_pos (i_lt.mpr (by rw [ti, tJ]; omega))]
    by_cases q : x < p10 i
    · rw [if_pos (lg_neg.mpr (by rw [tx, tp]; exact q)), Int.ediv_eq_zero_of_lt hx.1 q, if_neg (by decide), Int.add_zero]
    · have h1 : 0 < x / p10 i := by
        have := Int.le_ediv_of_mul_le (show 0 < p10 i by omega) (show 1 * p10 i ≤ x by omega)
        omega
      rw [if_neg (fun y => q (by have := lg_neg.mp y; rw [tx, tp] at this; exact this)), if_pos h1]
      have e1 : JL (p10 i) * JL 10 = JL (p10 (i + 1)) := by
        rw [p10_s]
        exact (Int64.ofInt_mul _ _).symm
      have e2 : J (i : Int) + J 1 = J ((i + 1 : Nat) : Int) := (J_add _ _).symm
      have e3 : x / p10 i / 10 = x / p10 (i + 1) := by rw [p10_s, Int.ediv_ediv_of_nonneg (by omega)]
      rw [e1, e2, ← J_add, e3]
      cases f with
      | zero => omega
      | succ f =>
        rw [gc_digitsLoop hx n f (i + 1) (d + 1) (by omega) (by omega)]
        rw [show d + 1 + dgF n (x / p10 (i + 1)) = d + (dgF n (x / p10 (i + 1)) + 1) by omega]
theorem gc_digitsOf {S : shp} {v : vl} {N : Nat} {z : Int} (hN : 100 ≤ N) (hz : 0 ≤ z ∧ z < 2147483648) : F_gc_digitsOf N (J z) S v = some (J (dgZ z)) := by
  obtain ⟨f, rfl⟩ : ∃ f, N = f + 1 := ⟨N - 1, by omega⟩
  have e := gc_digitsLoop (S := S) (v := v) (N := f + 1) hz 10 f 0 0 rfl (by omega)
  have e1 : p10 0 = 1 := rfl
  rw [e1, Int.ediv_one, Int.zero_add] at e
  exact e
end VALUES
