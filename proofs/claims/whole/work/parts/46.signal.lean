/-! The signal's segments. t, p: its times and periods. -/
section SIGNAL
/-- a segment comes -/
def smZ (t p : Nat → Int) (g : Nat → Int) : Nat → Int := fun k => match k with
  | 0 => p (g 9).toNat
  | 1 => if 0 < p (g 9).toNat then t (g 9).toNat + p (g 9).toNat else -1
  | 9 => g 9 + 1
  | k => g k
/-- a signal at a: its rows, where they lie, and what holds of them -/
def sgL (S : shp) (a : Nat) : Prop := kin S a = some (0, 3) ∧ kin S (a + 1) = some (1, 8) ∧ kin S (a + 2) = some (1, 8) ∧ gr S a 10 = some (a + 1) ∧ gr S a 11 = some (a + 2)
def tpB (n : Int) (t p : Nat → Int) : Prop := ∀ i : Nat, (i : Int) < n → (0 ≤ t i ∧ t i < 2000000) ∧ (0 ≤ p i ∧ p i ≤ 9999) ∧ ∀ j : Nat, j < i → t j < t i
theorem vin_of {S : shp} {a t n : Nat} {x : Int32} {k : Nat} (hk : kin S a = some (t, n)) (hx : x.toInt = k) (hn : k < n) : vp_in x (alen S a) := by
  rw [alen_of hk]
  unfold vp_in
  have hc := i_clamp (x := x) (by omega)
  rintro (h | h)
  · have h0 := i_lt.mp h
    have : (0 : Int32).toInt = 0 := by decide
    omega
  · omega
theorem clampT {x : Int32} {k : Nat} (hx : x.toInt = k) : x.toNatClampNeg = k := by
  have hc := i_clamp (x := x) (by omega)
  omega
theorem sg_firstEdge {S : shp} {v : vl} {a : Nat} {t p : Nat → Int} {n : Int} {i : Nat} (hl : sgL S a) (ht : rw v (a + 1) = iz t) (hp : rw v (a + 2) = iz p) (rt : rB t) (rp : rB p) (hb : tpB n t p) (hn : n ≤ 8) (hi : (i : Int) < n) :
    F_sg_firstEdge a (J i) S v = some (J (if 0 < p i then t i + p i else -1)) := by
  obtain ⟨l1, l2, l3, l4, l5⟩ := hl
  have ti : (J i).toInt = i := J_toInt (by omega) (by omega)
  have gt : (rw v (a + 1) i).toInt = t i := by rw [ht]; exact zi_iz rt i
  have gp : (rw v (a + 2) i).toInt = p i := by rw [hp]; exact zi_iz rp i
  obtain ⟨b1, b2, -⟩ := hb i hi
  unfold F_sg_firstEdge
  rw [grd_true _ l1, l5]
  simp only [Option.bind_some]
  rw [grd_true _ l3, grd_true _ (vin_of l3 ti (by omega))]
  simp only [clampT ti, gi_rw, lt_def]
  by_cases h : 0 < p i
  · have hp0 : J 0 < rw v (a + 2) i := i_lt.mpr (by rw [tJ, gp]; exact h)
    simp only [hp0, if_true, h]
    rw [l4]
    simp only [Option.bind_some]
    rw [grd_true _ l2, grd_true _ (vin_of l2 ti (by omega))]
    refine congrArg some (i_eq.mpr ?_)
    rw [i_add, gt, gp, J_toInt (by omega) (by omega)] <;> (rw [gt, gp]; omega)
  · have hp0 : ¬ J 0 < rw v (a + 2) i := fun q => h (by have := i_lt.mp q; rw [tJ, gp] at this; exact this)
    simp only [hp0, if_false, h]
end SIGNAL
