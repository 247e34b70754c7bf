/-! The law's own clock and signal: its row, and what comes next in it. -/
section LAWROW
theorem xor_negL (x y : Int64) : (x ^^^ y).toInt < 0 ↔ ((x.toInt < 0) ↔ ¬ (y.toInt < 0)) := by
  have e1 : ∀ y : Int64, y.toInt < 0 ↔ y.toBitVec.msb = true := by
    intro y
    rw [BitVec.msb_eq_toInt]
    exact decide_eq_true_iff.symm
  rw [e1, e1, e1, Int64.toBitVec_xor, BitVec.msb_xor]
  cases x.toBitVec.msb <;> cases y.toBitVec.msb <;> decide
theorem l_sub1 {x : Int64} (h : -4000000000000 ≤ x.toInt) : (x - JL 1).toInt = x.toInt - 1 := by
  have t1 : (JL 1).toInt = 1 := JL_toInt (by decide) (by decide)
  have h2 := Int64.toInt_lt x
  rw [Int64.toInt_sub, t1]
  exact l_bm (by omega) (by omega)
theorem l_tdiv {x y : Int64} (hx : -4000000000000 ≤ x.toInt ∧ x.toInt ≤ 4000000000000) (hy : y.toInt = 1000) : (x / y).toInt = x.toInt.tdiv 1000 := by
  rw [Int64.toInt_div, hy]
  refine l_bm ?_ ?_
  · rcases tdiv_cases x.toInt 1000 (by decide) with ⟨q1, q2⟩ | ⟨q1, q2⟩ <;> omega
  · rcases tdiv_cases x.toInt 1000 (by decide) with ⟨q1, q2⟩ | ⟨q1, q2⟩ <;> omega
theorem fdivL_ok {d : Int} (hd : -4000000000 ≤ d ∧ d ≤ 4000000000) (S : shp) (v : vl) : F_ma_floorDiv2 (JL d) (JL 1000) S v = some (JL (d / 1000)) := by
  have td : (JL d).toInt = d := JL_toInt (by omega) (by omega)
  have tk : (JL 1000).toInt = 1000 := JL_toInt (by decide) (by decide)
  have t0 : (JL 0).toInt = 0 := JL_toInt (by decide) (by decide)
  have eq : (JL d / JL 1000).toInt = d.tdiv 1000 := by rw [l_tdiv (by omega) tk, td]
  have tq : (JL (d / 1000)).toInt = d / 1000 := JL_toInt (by omega) (by omega)
  have em : ((JL d / JL 1000) * JL 1000).toInt = d.tdiv 1000 * 1000 := by
    rw [l_mul (by rw [eq, tk]; rcases tdiv_cases d 1000 (by decide) with ⟨q1, q2⟩ | ⟨q1, q2⟩ <;> omega) (by rw [eq, tk]; rcases tdiv_cases d 1000 (by decide) with ⟨q1, q2⟩ | ⟨q1, q2⟩ <;> omega), eq, tk]
  have n0 : ¬ JL 1000 = 0 := fun h => by rw [h] at tk; exact absurd tk (by decide)
  unfold F_ma_floorDiv2
  rw [grd_true _ n0]
  have hx : lg_cmp (JL d ^^^ JL 1000) (JL 0) < J 0 ↔ d < 0 := by
    rw [lg_neg, t0, xor_negL, td, tk]
    constructor
    · intro h; exact h.mpr (by decide)
    · intro h; exact ⟨fun _ => by decide, fun _ => h⟩
  by_cases h : d < 0
  · rw [if_pos (hx.mpr h)]
    have hc : lg_cmp ((JL d / JL 1000) * JL 1000) (JL d) = J 0 ↔ d.tdiv 1000 * 1000 = d := by
      rw [show J 0 = (0 : Int32) by decide, lg_cmp_eq, ← Int64.toInt_inj, em, td]
    by_cases h2 : d.tdiv 1000 * 1000 = d
    · rw [if_pos (hc.mpr h2)]
      refine congrArg some (Int64.toInt_inj.mp ?_)
      rw [eq, tq]
      rcases tdiv_cases d 1000 (by decide) with ⟨q1, q2⟩ | ⟨q1, q2⟩ <;> omega
    · rw [if_neg (fun q => h2 (hc.mp q))]
      refine congrArg some (Int64.toInt_inj.mp ?_)
      rw [l_sub1 (by rw [eq]; rcases tdiv_cases d 1000 (by decide) with ⟨q1, q2⟩ | ⟨q1, q2⟩ <;> omega), eq, tq]
      rcases tdiv_cases d 1000 (by decide) with ⟨q1, q2⟩ | ⟨q1, q2⟩ <;> omega
  · rw [if_neg (fun q => h (hx.mp q))]
    refine congrArg some (Int64.toInt_inj.mp ?_)
    rw [eq, tq]
    rcases tdiv_cases d 1000 (by decide) with ⟨q1, q2⟩ | ⟨q1, q2⟩ <;> omega
/-- where the law's object lies: o, its two rows of segments behind it -/
def lwL (S : shp) (o : Nat) : Prop := kin S o = some (0, 6) ∧ gr S o 2 = some (o + 1) ∧ kin S (o + 1) = some (1, 4) ∧ gr S o 3 = some (o + 2) ∧ kin S (o + 2) = some (1, 4)
/-- its numbers: T the time, c a clock's, g a signal's, in the class's order -/
def lwN (f : Nat → Int32) (T : Int) (c g : Nat → Int) : Prop := (f 0 = J (c 0) ∧ f 1 = J (g 8) ∧ f 4 = J T ∧ f 5 = J (c 5) ∧ f 6 = J (g 2) ∧ f 7 = J (g 3) ∧ f 8 = J (g 5) ∧ f 9 = J (g 4)) ∧ f 13 = J (c 1) ∧ f 14 = J (c 2) ∧ f 15 = J (g 9) ∧ f 18 = J (g 0) ∧ f 19 = J (c 6)
/-- the segment's start, and edges since -/
def lwS (f : Nat → Int32) (g : Nat → Int) : Prop := ∃ s i : Int, f 16 = J s ∧ f 17 = J i ∧ (g 0 ≠ 0 → s + g 0 * (i + 1) = g 1)
/-- the sum of drifts -/
def lwD (y : Int64) (c : Nat → Int) : Prop := ∃ d : Int, y = JL d ∧ c 0 * (c 5 + 1) + d / 1000 = c 4 ∧ d % 1000 = c 3 ∧ -(99 * c 5) ≤ d ∧ d ≤ 99 * c 5
def lwP (v : vl) (o : Nat) (X : Nat → Int) (n : Int) : Prop := n ≤ 4 ∧ ∀ k : Nat, (k : Int) < n → rw v (o + 1) k = J (mt X k) ∧ rw v (o + 2) k = J (mp X k)
def lwR (v : vl) (o : Nat) (X : Nat → Int) (T : Int) (c g : Nat → Int) : Prop := lwN (rw v o) T c g ∧ lwS (rw v o) g ∧ lwD (gl v o 20) c ∧ lwP v o X (g 8)
/-- what the law's walk through time leaves -/
def flw (o : Nat) (v v' : vl) : Prop := (∀ x, x ≠ o → rw v' x = rw v x ∧ v'.2 x = v.2 x) ∧ ∀ k, (k = 10 ∨ k = 11 ∨ k = 12 ∨ 21 ≤ k) → rw v' o k = rw v o k
theorem flw_refl (o : Nat) (v : vl) : flw o v v := ⟨fun _ _ => ⟨rfl, rfl⟩, fun _ _ => rfl⟩
theorem flw_tr {o : Nat} {u v w : vl} (h1 : flw o u v) (h2 : flw o v w) : flw o u w :=
  ⟨fun x hx => ⟨(h2.1 x hx).1.trans (h1.1 x hx).1, (h2.1 x hx).2.trans (h1.1 x hx).2⟩, fun k hk => (h2.2 k hk).trans (h1.2 k hk)⟩
theorem flw_wr {o : Nat} {v : vl} {f : Nat → Int32} (h : ∀ k, (k = 10 ∨ k = 11 ∨ k = 12 ∨ 21 ≤ k) → f k = rw v o k) : flw o v (wr v o f) :=
  ⟨fun x hx => ⟨rw_wr_ne hx, rfl⟩, fun k hk => by rw [rw_wr]; exact h k hk⟩
theorem lwP_flw {v v' : vl} {o : Nat} {X : Nat → Int} {n : Int} (h : lwP v o X n) (hf : flw o v v') : lwP v' o X n :=
  ⟨h.1, fun k hk => by rw [(hf.1 (o + 1) (by omega)).1, (hf.1 (o + 2) (by omega)).1]; exact h.2 k hk⟩
variable {S : shp} {v : vl} {o N : Nat} {X : Nat → Int} {T L : Int} {c g : Nat → Int}
theorem c5_B (hI : mdI X T c g) : (0 ≤ c 5 ∧ c 5 ≤ 240000) ∧ (0 ≤ c 4 ∧ c 4 ≤ 2101000) ∧ (10 ≤ c 0 ∧ c 0 ≤ 999) := by
  obtain ⟨-, ⟨c0, -, -, -, c4, c5⟩, ⟨h4, h5⟩, -⟩ := hI
  exact ⟨⟨c5, by omega⟩, ⟨c4, h4⟩, c0⟩
/-- the time of the next segment, the next edge, as the law has them -/
def zS (X g : Nat → Int) : Int := if g 9 < g 8 then mt X (g 9).toNat else 9999999
def zE (g : Nat → Int) : Int := if g 0 = 0 then 9999999 else g 1
theorem lw_nextClock (hl : lwL S o) (h0 : rw v o 0 = J (c 0)) (h5 : rw v o 5 = J (c 5)) (hD : lwD (gl v o 20) c) (hI : mdI X T c g) : F_lw_nextClock o S v = some (J (c 4)) := by
  obtain ⟨d, e1, e2, e3, e4, e5⟩ := hD
  have b := c5_B hI
  have tq : (JL (d / 1000)).toInt = d / 1000 := JL_toInt (by omega) (by omega)
  unfold F_lw_nextClock
  rw [grd_true _ hl.1, e1, fdivL_ok (by omega)]
  show some _ = some _
  refine congrArg some ?_
  simp only [gi_x]
  rw [h0, h5, l_J, tq, ← J_add, ← J_mul, ← J_add, e2]
theorem lw_nextEdge (hl : lwL S o) (h18 : rw v o 18 = J (g 0)) (hS : lwS (rw v o) g) (hg : 0 ≤ g 0 ∧ g 0 ≤ 9999) : F_lw_nextEdge o S v = some (J (zE g)) := by
  unfold zE
  obtain ⟨s, i, e1, e2, e3⟩ := hS
  unfold F_lw_nextEdge
  rw [grd_true _ hl.1]
  simp only [gi_x]
  rw [h18]
  by_cases h : g 0 = 0
  · rw [if_pos (by rw [h]), if_pos h]
  · rw [if_neg (fun q => h ((J_inj (by omega) (by decide)).mp q)), if_neg h, e1, e2, ← e3 h, J_add, J_mul, J_add]
theorem lw_nextSegment (hl : lwL S o) (h1 : rw v o 1 = J (g 8)) (h15 : rw v o 15 = J (g 9)) (hP : lwP v o X (g 8)) (hg : 0 ≤ g 9 ∧ g 9 ≤ g 8) : F_lw_nextSegment o S v = some (J (zS X g)) := by
  unfold zS
  have h4 := hP.1
  unfold F_lw_nextSegment
  rw [grd_true _ hl.1]
  simp only [gi_x]
  rw [h1, h15]
  by_cases h : g 9 < g 8
  · have t9 : (J (g 9)).toInt = ((g 9).toNat : Nat) := by rw [J_toInt (by omega) (by omega)]; omega
    rw [if_pos ((J_lt (by omega) (by omega)).mpr h), if_pos h, hl.2.1]
    simp only [Option.bind_some]
    rw [grd_true _ hl.2.2.1, grd_true _ (vin_of hl.2.2.1 t9 (by omega)), clampT t9, (hP.2 _ (by omega)).1]
  · rw [if_neg (fun q => h ((J_lt (by omega) (by omega)).mp q)), if_neg h]
def min3 (s k e : Int) : Int := if (if e < k then e else k) < s then (if e < k then e else k) else s
theorem min_J {a b : Int} (ha : -2147483648 ≤ a ∧ a < 2147483648) (hb : -2147483648 ≤ b ∧ b < 2147483648) (S : shp) (v : vl) : F_ma_min (J a) (J b) S v = some (J (if b < a then b else a)) := by
  rw [ma_min]
  by_cases h : b < a
  · rw [if_pos ((J_lt hb ha).mpr h), if_pos h]
  · rw [if_neg (fun q => h ((J_lt hb ha).mp q)), if_neg h]
theorem max_J {a b : Int} (ha : -2147483648 ≤ a ∧ a < 2147483648) (hb : -2147483648 ≤ b ∧ b < 2147483648) (S : shp) (v : vl) : F_ma_max (J a) (J b) S v = some (J (if a < b then b else a)) := by
  rw [ma_max]
  by_cases h : a < b
  · rw [if_pos ((J_lt ha hb).mpr h), if_pos h]
  · rw [if_neg (fun q => h ((J_lt ha hb).mp q)), if_neg h]
theorem z_B (hI : mdI X T c g) : (0 ≤ zS X g ∧ zS X g ≤ 9999999) ∧ (0 ≤ zE g ∧ zE g ≤ 9999999) ∧ (0 ≤ g 9 ∧ g 9 ≤ g 8 ∧ g 8 ≤ 8) ∧ (0 ≤ g 0 ∧ g 0 ≤ 9999) ∧ (g 0 = 0 ↔ g 1 = -1) := by
  obtain ⟨⟨u, ⟨hJ, hJ2, hJ3, hJ4⟩, q0, q1⟩, -⟩ := id hI
  obtain ⟨s0, s1, s2, -⟩ := hJ
  refine ⟨?_, ?_, hJ2, s0, s1, fun q => ?_⟩
  · unfold zS
    split
    · have := (hJ3 (g 9).toNat (by omega)).1
      omega
    · omega
  · unfold zE
    split
    · omega
    · have := s2 (by omega)
      omega
  · by_cases z : 0 < g 0
    · have := s2 z
      omega
    · omega
end LAWROW
