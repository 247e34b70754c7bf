/-! The clock: rows as Int, the class's ticks and leaps. -/
section CLOCK
def zi (f : Nat → Int32) : Nat → Int := fun k => (f k).toInt
def iz (X : Nat → Int) : Nat → Int32 := fun k => J (X k)
theorem J_of (x : Int32) : J x.toInt = x := by
  apply Int32.toInt_inj.mp
  exact J_toInt (i_rng x).1 (i_rng x).2
theorem iz_zi (f : Nat → Int32) : iz (zi f) = f := by funext k; exact J_of _
theorem row_ext {f : Nat → Int32} {X : Nat → Int} (h : ∀ k, (f k).toInt = X k) : f = iz X := by
  funext k
  show f k = J (X k)
  rw [← h k, J_of]
/-- one edge of the clock; 0 step, 1 drift, 2 age, 3 rest, 4 next, 5 edges, 6 latest -/
def clampZ (z : Int) : Int := if z < -99 then -99 else if 99 < z then 99 else z
def tkD (c : Nat → Int) : Int := if (c 5 + 1) % 100 = 0 then clampZ (c 1 + c 2) else c 1
def tkZ (c : Nat → Int) : Nat → Int := fun k => match k with
  | 1 => tkD c
  | 3 => (c 3 + tkD c) % 1000
  | 4 => c 4 + c 0 + (c 3 + tkD c) / 1000
  | 5 => c 5 + 1
  | 6 => c 4
  | k => c k
/-- bounds of a clock -/
def ckB (c : Nat → Int) : Prop := (10 ≤ c 0 ∧ c 0 ≤ 999) ∧ (-99 ≤ c 1 ∧ c 1 ≤ 99) ∧ (-1 ≤ c 2 ∧ c 2 ≤ 1) ∧ (0 ≤ c 3 ∧ c 3 < 1000) ∧ (0 ≤ c 4 ∧ c 4 < 1000000000) ∧ (0 ≤ c 5 ∧ c 5 < 1000000000)
theorem tkD_B {c : Nat → Int} (h : ckB c) : -99 ≤ tkD c ∧ tkD c ≤ 99 := by
  obtain ⟨-, h1, -⟩ := h
  unfold tkD clampZ
  split
  · split
    · omega
    · split <;> omega
  · exact h1
theorem tdiv_cases (x d : Int) (hd : 0 < d) : (0 ≤ x ∧ x.tdiv d = x / d) ∨ (x < 0 ∧ x.tdiv d = -((-x) / d)) := by
  by_cases h : 0 ≤ x
  · exact Or.inl ⟨h, Int.tdiv_eq_ediv_of_nonneg h⟩
  · refine Or.inr ⟨by omega, ?_⟩
    rw [← Int.tdiv_eq_ediv_of_nonneg (a := -x) (by omega), Int.neg_tdiv, Int.neg_neg]
theorem xor_neg (x y : Int32) : (x ^^^ y) < J 0 ↔ ((x.toInt < 0) ↔ ¬ (y.toInt < 0)) := by
  have e0 : ∀ y : Int32, y < J 0 ↔ y.toBitVec.msb = true := by
    intro y
    rw [i_lt, tJ, BitVec.msb_eq_toInt]
    exact decide_eq_true_iff.symm
  have e1 : ∀ y : Int32, y.toInt < 0 ↔ y.toBitVec.msb = true := by
    intro y
    rw [BitVec.msb_eq_toInt]
    exact decide_eq_true_iff.symm
  rw [e0, e1, e1, Int32.toBitVec_xor, BitVec.msb_xor]
  cases x.toBitVec.msb <;> cases y.toBitVec.msb <;> decide
theorem fdiv_ok {x y : Int32} (hy : 0 < y.toInt) (hy2 : y.toInt < 2000000) (S : shp) (v : vl) : F_ma_floorDiv x y S v = some (J (x.toInt / y.toInt)) := by
  have hx := i_rng x
  have e : (x / y).toInt = x.toInt.tdiv y.toInt := i_div hy
  have hy0 : ¬ y = 0 := fun q => by rw [q] at hy; exact absurd hy (by decide)
  have hr := Int.mul_tdiv_add_tmod x.toInt y.toInt
  have hb1 := Int.tmod_lt_of_pos x.toInt hy
  have hm := Int.mul_comm y.toInt (x.toInt.tdiv y.toInt)
  have hq := Int.mul_ediv_add_emod x.toInt y.toInt
  have hq1 := Int.emod_nonneg x.toInt (Int.ne_of_gt hy)
  have hq2 := Int.emod_lt_of_pos x.toInt hy
  have hdl : -2147483648 ≤ x.toInt / y.toInt ∧ x.toInt / y.toInt < 2147483648 := by
    constructor
    · exact Int.le_ediv_of_mul_le hy (by have : -2147483648 * y.toInt ≤ -2147483648 * 1 := Int.mul_le_mul_of_nonpos_left (by omega) (by omega); omega)
    · refine Int.ediv_lt_of_lt_mul hy ?_
      have : 2147483648 * 1 ≤ 2147483648 * y.toInt := Int.mul_le_mul_of_nonneg_left (by omega) (by omega)
      omega
  unfold F_ma_floorDiv
  rw [grd_true _ hy0]
  have e2 : (x / y * y).toInt = x.toInt.tdiv y.toInt * y.toInt := by
    rw [i_mul, e]
    · rw [e]; rcases tdiv_cases x.toInt y.toInt hy with ⟨h0, -⟩ | ⟨h0, -⟩
      · have := Int.tmod_nonneg y.toInt h0; have := Int.mul_nonneg (Int.tdiv_nonneg h0 (Int.le_of_lt hy)) (Int.le_of_lt hy); omega
      · have : 0 ≤ -(x.toInt.tmod y.toInt) := by rw [← Int.neg_tmod]; exact Int.tmod_nonneg _ (by omega)
        omega
    · rw [e]; rcases tdiv_cases x.toInt y.toInt hy with ⟨h0, -⟩ | ⟨h0, -⟩
      · have := Int.tmod_nonneg y.toInt h0; omega
      · have := Int.lt_tmod_of_pos x.toInt hy; omega
  have hxy : (x ^^^ y) < J 0 ↔ x.toInt < 0 := by
    rw [xor_neg]
    constructor
    · intro h; exact h.mpr (by omega)
    · intro h; exact ⟨fun _ => by omega, fun _ => h⟩
  by_cases h0 : x.toInt < 0
  · rw [if_pos (hxy.mpr h0)]
    have hl := Int.lt_tmod_of_pos x.toInt hy
    have hn : 0 ≤ -(x.toInt.tmod y.toInt) := by rw [← Int.neg_tmod]; exact Int.tmod_nonneg _ (by omega)
    by_cases h1 : x / y * y = x
    · rw [if_pos h1]
      have h2 := i_eq.mp h1
      rw [e2] at h2
      refine congrArg some (i_eq.mpr ?_)
      rw [e, J_toInt hdl.1 hdl.2]
      exact Int.eq_ediv_of_mul_eq_left (Int.ne_of_gt hy) h2
    · rw [if_neg h1]
      have h2 : x.toInt.tdiv y.toInt * y.toInt ≠ x.toInt := fun q => h1 (i_eq.mpr (by rw [e2]; exact q))
      have hz : x.toInt / y.toInt = x.toInt.tdiv y.toInt - 1 := by
        refine (Int.ediv_eq_iff_of_pos hy).mpr ?_
        rw [Int.sub_mul, Int.one_mul]
        omega
      refine congrArg some (i_eq.mpr ?_)
      rw [i_sub, e, tJ, J_toInt hdl.1 hdl.2, hz]
      · rw [e, tJ]; omega
      · rw [e, tJ]; omega
  · rw [if_neg (fun q => h0 (hxy.mp q))]
    refine congrArg some (i_eq.mpr ?_)
    rw [e, J_toInt hdl.1 hdl.2, Int.tdiv_eq_ediv_of_nonneg (by omega)]
theorem fmod_ok {x y : Int32} (hy : 0 < y.toInt) (hy2 : y.toInt < 2000000) (S : shp) (v : vl) : F_ma_floorMod x y S v = some (J (x.toInt % y.toInt)) := by
  have hx := i_rng x
  have e : (x / y).toInt = x.toInt.tdiv y.toInt := i_div hy
  have hy0 : ¬ y = 0 := fun q => by rw [q] at hy; exact absurd hy (by decide)
  have hr := Int.mul_tdiv_add_tmod x.toInt y.toInt
  have hb1 := Int.tmod_lt_of_pos x.toInt hy
  have hb2 := Int.lt_tmod_of_pos x.toInt hy
  have hm := Int.mul_comm y.toInt (x.toInt.tdiv y.toInt)
  have hq := Int.mul_ediv_add_emod x.toInt y.toInt
  have hq1 := Int.emod_nonneg x.toInt (Int.ne_of_gt hy)
  have hq2 := Int.emod_lt_of_pos x.toInt hy
  have e2 : (x / y * y).toInt = x.toInt.tdiv y.toInt * y.toInt := by
    rw [i_mul, e]
    · rw [e]; rcases tdiv_cases x.toInt y.toInt hy with ⟨h0, -⟩ | ⟨h0, -⟩
      · have := Int.tmod_nonneg y.toInt h0; have := Int.mul_nonneg (Int.tdiv_nonneg h0 (Int.le_of_lt hy)) (Int.le_of_lt hy); omega
      · have : 0 ≤ -(x.toInt.tmod y.toInt) := by rw [← Int.neg_tmod]; exact Int.tmod_nonneg _ (by omega)
        omega
    · rw [e]; rcases tdiv_cases x.toInt y.toInt hy with ⟨h0, -⟩ | ⟨h0, -⟩
      · have := Int.tmod_nonneg y.toInt h0; omega
      · omega
  have e3 : (x - x / y * y).toInt = x.toInt.tmod y.toInt := by
    rw [i_sub, e2]
    · omega
    · rw [e2]; omega
    · rw [e2]; omega
  unfold F_ma_floorMod
  rw [grd_true _ hy0]
  have hxy : (x ^^^ y) < J 0 ↔ x.toInt < 0 := by
    rw [xor_neg]
    constructor
    · intro h; exact h.mpr (by omega)
    · intro h; exact ⟨fun _ => by omega, fun _ => h⟩
  show (if _ then _ else _) = _
  by_cases h0 : x.toInt < 0
  · rw [if_pos (hxy.mpr h0)]
    have hn : 0 ≤ -(x.toInt.tmod y.toInt) := by rw [← Int.neg_tmod]; exact Int.tmod_nonneg _ (by omega)
    by_cases h1 : x - x / y * y = J 0
    · rw [if_pos h1]
      have h2 := i_eq.mp h1
      rw [e3, tJ] at h2
      refine congrArg some (i_eq.mpr ?_)
      rw [e3, J_toInt (by omega) (by omega), h2]
      exact (Int.emod_eq_zero_of_dvd ⟨x.toInt.tdiv y.toInt, by omega⟩).symm
    · rw [if_neg h1]
      have h2 : x.toInt.tmod y.toInt ≠ 0 := fun q => h1 (i_eq.mpr (by rw [e3, tJ]; exact q))
      have hz : x.toInt % y.toInt = x.toInt.tmod y.toInt + y.toInt := by
        have := (Int.ediv_emod_unique (a := x.toInt) (b := y.toInt) (r := x.toInt.tmod y.toInt + y.toInt) (q := x.toInt.tdiv y.toInt - 1) hy).mpr ⟨by rw [Int.mul_sub, Int.mul_one]; omega, by omega, by omega⟩
        exact this.2
      refine congrArg some (i_eq.mpr ?_)
      rw [i_add, e3, J_toInt (by omega) (by omega), hz]
      · rw [e3]; omega
      · rw [e3]; omega
  · rw [if_neg (fun q => h0 (hxy.mp q))]
    refine congrArg some (i_eq.mpr ?_)
    rw [e3, J_toInt (by omega) (by omega), Int.tmod_eq_emod_of_nonneg (by omega)]
theorem within_ok (x : Int32) (S : shp) (v : vl) : F_gc_withinOff x S v = some (J (clampZ x.toInt)) := by
  unfold F_gc_withinOff clampZ
  rw [ma_min]
  show (F_ma_max _ _ S v).bind _ = _
  rw [ma_max]
  show some _ = some _
  refine congrArg some (i_eq.mpr ?_)
  have a99 : (J 99).toInt = 99 := tJ
  have b99 : (J (-99)).toInt = -99 := tJ
  by_cases h1 : x < J 99
  · have h1' := i_lt.mp h1
    rw [a99] at h1'
    simp only [h1, if_true]
    by_cases h2 : J (-99) < x
    · have h2' := i_lt.mp h2
      rw [b99] at h2'
      simp only [h2, if_true]
      rw [if_neg (by omega), if_neg (by omega), J_of]
    · have h2' : ¬ _ := fun q => h2 (i_lt.mpr q)
      rw [b99] at h2'
      simp only [h2, if_false]
      by_cases h3 : x.toInt < -99
      · rw [if_pos h3]
      · rw [if_neg h3, if_neg (by omega), J_of, b99]; omega
  · have h1' : ¬ _ := fun q => h1 (i_lt.mpr q)
    rw [a99] at h1'
    simp only [h1, if_false]
    rw [if_pos (i_lt.mpr (by rw [a99, b99]; decide)), if_neg (by omega), a99]
    by_cases h3 : 99 < x.toInt
    · rw [if_pos h3, tJ]
    · rw [if_neg h3, J_of]; omega
theorem i_rem {x y : Int32} (hx : 0 ≤ x.toInt) (hy : 0 < y.toInt) : (x - x / y * y).toInt = x.toInt % y.toInt := by
  have hr := i_rng x
  have e : (x / y).toInt = x.toInt / y.toInt := by rw [i_div hy, Int.tdiv_eq_ediv_of_nonneg hx]
  have hq := Int.mul_ediv_add_emod x.toInt y.toInt
  have hm := Int.mul_comm y.toInt (x.toInt / y.toInt)
  have h1 := Int.emod_nonneg x.toInt (Int.ne_of_gt hy)
  have h2 := Int.mul_nonneg (Int.ediv_nonneg hx (Int.le_of_lt hy)) (Int.le_of_lt hy)
  have e2 : (x / y * y).toInt = x.toInt / y.toInt * y.toInt := by
    rw [i_mul, e]
    · rw [e]; omega
    · rw [e]; omega
  rw [i_sub, e2]
  · omega
  · rw [e2]; omega
  · rw [e2]; omega
/-- n steps with the same drift -/
def mvZ (n : Int) (c : Nat → Int) : Nat → Int := fun k => match k with
  | 3 => (c 3 + n * c 1) % 1000
  | 4 => c 4 + (n * c 0 + (c 3 + n * c 1) / 1000)
  | k => c k
theorem ck_move {S : shp} {v : vl} {a : Nat} {c : Nat → Int} {n : Int} (hk : kin S a = some (0, 0)) (hc : rw v a = iz c) (hc' : ∀ k, zi (iz c) k = c k) (hn : 0 ≤ n ∧ n ≤ 99) (h0 : 0 ≤ n * c 0 ∧ n * c 0 ≤ 98901) (h1 : -9801 ≤ n * c 1 ∧ n * c 1 ≤ 9801) (h3 : 0 ≤ c 3 ∧ c 3 < 1000) (h4 : 0 ≤ c 4 ∧ c 4 < 1000000000) :
    F_ck_move a (J n) S v = some (wr v a (iz (mvZ n c))) := by
  have g : ∀ k, (gi v a k).toInt = c k := fun k => by rw [gi_rw, hc]; exact hc' k
  have tn : (J n).toInt = n := J_toInt (by omega) (by omega)
  have m1 : (J n * gi v a 1).toInt = n * c 1 := by rw [i_mul, tn, g] <;> (rw [tn, g]; omega)
  have m0 : (J n * gi v a 0).toInt = n * c 0 := by rw [i_mul, tn, g] <;> (rw [tn, g]; omega)
  have ms : (gi v a 3 + J n * gi v a 1).toInt = c 3 + n * c 1 := by rw [i_add, m1, g] <;> (rw [m1, g]; omega)
  unfold F_ck_move
  rw [grd_true _ hk]
  simp only [lt_def]
  rw [fdiv_ok (by rw [tJ]; decide) (by rw [tJ]; decide)]
  simp only [Option.bind_some]
  rw [fmod_ok (by rw [tJ]; decide) (by rw [tJ]; decide)]
  simp only [Option.bind_some, ms, tJ]
  have q1 : (J n * gi v a 0 + J ((c 3 + n * c 1) / 1000)).toInt = n * c 0 + (c 3 + n * c 1) / 1000 := by
    rw [i_add, m0, J_toInt (by omega) (by omega)] <;> (rw [m0, J_toInt (by omega) (by omega)]; omega)
  have q2 : (gi v a 4 + (J n * gi v a 0 + J ((c 3 + n * c 1) / 1000))).toInt = c 4 + (n * c 0 + (c 3 + n * c 1) / 1000) := by
    rw [i_add, q1, g] <;> (rw [q1, g]; omega)
  rw [si_wr, si_wr, wr_wr, rw_wr]
  refine congrArg (fun f => some (wr v a f)) (row_ext fun k => ?_)
  unfold up
  match k with
  | 0 => exact g 0
  | 1 => exact g 1
  | 2 => exact g 2
  | 3 =>
    show (J ((c 3 + n * c 1) % (J 1000).toInt)).toInt = (c 3 + n * c 1) % 1000
    rw [tJ (z := 1000)]
    exact J_toInt (by omega) (by omega)
  | 4 => exact q2
  | j + 5 => exact g (j + 5)
theorem zi_iz {c : Nat → Int} (h : ∀ k, -2147483648 ≤ c k ∧ c k < 2147483648) : ∀ k, zi (iz c) k = c k := fun k => J_toInt (h k).1 (h k).2
/-- bounds of the numbers of a row -/
def rB (c : Nat → Int) : Prop := ∀ k, -2147483648 ≤ c k ∧ c k < 2147483648
theorem rB_zi (f : Nat → Int32) : rB (zi f) := fun k => i_rng (f k)
theorem ck_tick {S : shp} {v : vl} {a : Nat} {c : Nat → Int} (hk : kin S a = some (0, 0)) (hc : rw v a = iz c) (hr : rB c) (hb : ckB c) : F_ck_tick a S v = some (wr v a (iz (tkZ c))) := by
  have hc' := zi_iz hr
  have g : ∀ k, (gi v a k).toInt = c k := fun k => by rw [gi_rw, hc]; exact hc' k
  have hD := tkD_B hb
  obtain ⟨b0, b1, b2, b3, b4, b5⟩ := hb
  have e5 : (gi v a 5 + J 1).toInt = c 5 + 1 := by rw [i_add, g, tJ] <;> (rw [g, tJ]; omega)
  unfold F_ck_tick
  rw [grd_true _ hk]
  simp only [lt_def, si_wr, wr_wr, rw_wr, gi_rw, up_same, up_ne (show (4 : Nat) ≠ 5 by decide), up_ne (show (5 : Nat) ≠ 6 by decide), up_ne (show (1 : Nat) ≠ 6 by decide), up_ne (show (1 : Nat) ≠ 5 by decide), up_ne (show (2 : Nat) ≠ 6 by decide), up_ne (show (2 : Nat) ≠ 5 by decide)]
  simp only [gi_rw] at e5 g
  have er : (rw v a 5 + J 1 - (rw v a 5 + J 1) / J 100 * J 100).toInt = (c 5 + 1) % 100 := by
    rw [i_rem (by rw [e5]; omega) (by rw [tJ]; decide), e5, tJ]
  have ed : (rw v a 1 + rw v a 2).toInt = c 1 + c 2 := by rw [i_add, g, g] <;> (rw [g, g]; omega)
  by_cases h : (c 5 + 1) % 100 = 0
  · rw [if_pos (i_eq.mpr (by rw [er, h, tJ])), within_ok]
    simp only [Option.bind_some]
    have hd : tkD c = clampZ (c 1 + c 2) := if_pos h
    rw [ck_move (n := 1) (c := fun k => match k with | 1 => tkD c | 5 => c 5 + 1 | 6 => c 4 | k => c k) hk ?_ ?_ (by omega) (by show 0 ≤ 1 * c 0 ∧ 1 * c 0 ≤ _; omega) (by show _ ≤ 1 * tkD c ∧ 1 * tkD c ≤ _; omega) b3 b4]
    · show some (wr (wr v a _) a _) = _
      rw [wr_wr]
      refine congrArg (fun f => some (wr v a (iz f))) (funext fun k => ?_)
      match k with
      | 0 => rfl
      | 1 => rfl
      | 2 => rfl
      | 3 => show (c 3 + 1 * tkD c) % 1000 = (c 3 + tkD c) % 1000; rw [Int.one_mul]
      | 4 => show c 4 + (1 * c 0 + (c 3 + 1 * tkD c) / 1000) = c 4 + c 0 + (c 3 + tkD c) / 1000; rw [Int.one_mul, Int.one_mul]; omega
      | 5 => rfl
      | 6 => rfl
      | j + 7 => rfl
    · rw [rw_wr]
      refine row_ext fun k => ?_
      unfold up
      match k with
      | 0 => exact g 0
      | 1 => show (J (clampZ (rw v a 1 + rw v a 2).toInt)).toInt = tkD c; rw [ed, ← hd]; exact J_toInt (by omega) (by omega)
      | 2 => exact g 2
      | 3 => exact g 3
      | 4 => exact g 4
      | 5 => exact e5
      | 6 => exact g 4
      | j + 7 => exact g (j + 7)
    · refine zi_iz fun k => ?_
      match k with
      | 0 => exact hr 0
      | 1 => show _ ≤ tkD c ∧ tkD c < _; omega
      | 2 => exact hr 2
      | 3 => exact hr 3
      | 4 => exact hr 4
      | 5 => show _ ≤ c 5 + 1 ∧ c 5 + 1 < _; omega
      | 6 => exact hr 4
      | j + 7 => exact hr (j + 7)
  · rw [if_neg (fun q => h (by have := i_eq.mp q; rw [er, tJ] at this; exact this))]
    have hd : tkD c = c 1 := if_neg h
    rw [ck_move (n := 1) (c := fun k => match k with | 5 => c 5 + 1 | 6 => c 4 | k => c k) hk ?_ ?_ (by omega) (by show 0 ≤ 1 * c 0 ∧ 1 * c 0 ≤ _; omega) (by show _ ≤ 1 * c 1 ∧ 1 * c 1 ≤ _; omega) b3 b4]
    · show some (wr (wr v a _) a _) = _
      rw [wr_wr]
      refine congrArg (fun f => some (wr v a (iz f))) (funext fun k => ?_)
      match k with
      | 0 => rfl
      | 1 => exact hd.symm
      | 2 => rfl
      | 3 => show (c 3 + 1 * c 1) % 1000 = (c 3 + tkD c) % 1000; rw [Int.one_mul, hd]
      | 4 => show c 4 + (1 * c 0 + (c 3 + 1 * c 1) / 1000) = c 4 + c 0 + (c 3 + tkD c) / 1000; rw [Int.one_mul, Int.one_mul, hd]; omega
      | 5 => rfl
      | 6 => rfl
      | j + 7 => rfl
    · rw [rw_wr]
      refine row_ext fun k => ?_
      unfold up
      match k with
      | 0 => exact g 0
      | 1 => exact g 1
      | 2 => exact g 2
      | 3 => exact g 3
      | 4 => exact g 4
      | 5 => exact e5
      | 6 => exact g 4
      | j + 7 => exact g (j + 7)
    · refine zi_iz fun k => ?_
      match k with
      | 0 => exact hr 0
      | 1 => exact hr 1
      | 2 => exact hr 2
      | 3 => exact hr 3
      | 4 => exact hr 4
      | 5 => show _ ≤ c 5 + 1 ∧ c 5 + 1 < _; omega
      | 6 => exact hr 4
      | j + 7 => exact hr (j + 7)
end CLOCK
