/-! The signal's segments. t, p: its times and periods. -/
section SIGNAL
/-- a segment comes -/
def smZ (t p : Nat → Int) (g : Nat → Int) : Nat → Int := fun k => match k with
  | 0 => p (g 9).toNat
  | 1 => if 0 < p (g 9).toNat then t (g 9).toNat + p (g 9).toNat else -1
  | 9 => g 9 + 1
  | k => g k
/-- a signal at a: its rows, where they lie, and what holds of them -/
def sgL (S : shp) (a : Nat) : Prop := kin S a = some (0, 3) ∧ kin S (a + 1) = some (1, 8) ∧ kin S (a + 2) = some (1, 8) ∧ gr S a 10 = some (a + 1) ∧ gr S a 11 = some (a + 2)
def tpB (n : Int) (t p : Nat → Int) : Prop := ∀ i : Nat, (i : Int) < n → (0 ≤ t i ∧ t i < 2000000) ∧ (0 ≤ p i ∧ p i ≤ 9999) ∧ ∀ j : Nat, j < i → t j < t i
theorem vin_of {S : shp} {a t n : Nat} {x : Int32} {k : Nat} (hk : kin S a = some (t, n)) (hx : x.toInt = k) (hn : k < n) : vp_in x (alen S a) := by
  rw [alen_of hk]
  unfold vp_in
  have hc := i_clamp (x := x) (by omega)
  rintro (h | h)
  · have h0 := i_lt.mp h
    have : (0 : Int32).toInt = 0 := by decide
    omega
  · omega
theorem clampT {x : Int32} {k : Nat} (hx : x.toInt = k) : x.toNatClampNeg = k := by
  have hc := i_clamp (x := x) (by omega)
  omega
theorem sg_firstEdge {S : shp} {v : vl} {a : Nat} {t p : Nat → Int} {n : Int} {i : Nat} (hl : sgL S a) (ht : rw v (a + 1) = iz t) (hp : rw v (a + 2) = iz p) (rt : rB t) (rp : rB p) (hb : tpB n t p) (hn : n ≤ 8) (hi : (i : Int) < n) :
    F_sg_firstEdge a (J i) S v = some (J (if 0 < p i then t i + p i else -1)) := by
  obtain ⟨l1, l2, l3, l4, l5⟩ := hl
  have ti : (J i).toInt = i := J_toInt (by omega) (by omega)
  have gt : (rw v (a + 1) i).toInt = t i := by rw [ht]; exact zi_iz rt i
  have gp : (rw v (a + 2) i).toInt = p i := by rw [hp]; exact zi_iz rp i
  obtain ⟨b1, b2, -⟩ := hb i hi
  unfold F_sg_firstEdge
  rw [grd_true _ l1, l5]
  simp only [Option.bind_some]
  rw [grd_true _ l3, grd_true _ (vin_of l3 ti (by omega))]
  simp only [clampT ti, gi_rw, lt_def]
  by_cases h : 0 < p i
  · have hp0 : J 0 < rw v (a + 2) i := i_lt.mpr (by rw [tJ, gp]; exact h)
    simp only [hp0, if_true, h]
    rw [l4]
    simp only [Option.bind_some]
    rw [grd_true _ l2, grd_true _ (vin_of l2 ti (by omega))]
    refine congrArg some (i_eq.mpr ?_)
    rw [i_add, gt, gp, J_toInt (by omega) (by omega)] <;> (rw [gt, gp]; omega)
  · have hp0 : ¬ J 0 < rw v (a + 2) i := fun q => h (by have := i_lt.mp q; rw [tJ, gp] at this; exact this)
    simp only [hp0, if_false, h]
/-- a signal whose edges up to u have come -/
def sgI (u : Int) (g : Nat → Int) : Prop := (0 ≤ g 0 ∧ g 0 ≤ 9999) ∧ (g 0 = 0 → g 1 = -1) ∧ (0 < g 0 → u < g 1 ∧ g 1 ≤ 2109999) ∧ (0 ≤ g 3 ∧ g 3 ≤ g 2 ∧ g 2 ≤ u) ∧ (1 ≤ g 4 ∧ g 4 ≤ 16) ∧ (0 ≤ g 5 ∧ g 5 < g 4)
theorem sgI_B {u : Int} {g : Nat → Int} (h : sgI u g) (hu : 0 ≤ u ∧ u ≤ 2100000) : sgB g := by
  obtain ⟨h0, h1, h2, h3, h4, h5⟩ := h
  refine ⟨h0, ?_, ?_, ?_, h4, h5⟩
  · by_cases q : 0 < g 0
    · have := h2 q; omega
    · have := h1 (by omega); omega
  · omega
  · omega
/-- the edges up to T come -/
def edE (T : Int) (g : Nat → Int) : Nat → Int := egN (edN T g).toNat g
theorem edN_0 {T u : Int} {g : Nat → Int} (h : sgI u g) (hT : T ≤ u) : edN T g = 0 := by
  unfold edN edF
  refine if_neg fun q => ?_
  have := h.2.2.1 q.2.2
  omega
theorem edE_0 {T u : Int} {g : Nat → Int} (h : sgI u g) (hT : T ≤ u) : edE T g = g := by
  unfold edE
  rw [edN_0 h hT]
  rfl
theorem edE_I {T u : Int} {g : Nat → Int} (h : sgI u g) (hu : 0 ≤ u) (hT : u ≤ T) (hT2 : T ≤ 2100000) : sgI T (edE T g) ∧ (0 < g 0 → g 1 ≤ T → T < (edE T g) 1 ∧ (edE T g) 1 ≤ T + g 0) ∧ ∀ k, k ≠ 1 → k ≠ 2 → k ≠ 3 → k ≠ 5 → edE T g k = g k := by
  obtain ⟨h0, h1, h2, h3, h4, h5⟩ := h
  have hn := edN_nn T g
  have hc : ((edN T g).toNat : Int) = edN T g := by omega
  have hp : 0 < g 4 := by omega
  unfold edE
  rw [egN_ep h5]
  unfold epZ
  rw [hc]
  have q1 := Int.ediv_nonneg (a := g 5 + edN T g) (b := g 4) (by omega) (by omega)
  have q2 : (g 5 + edN T g) / g 4 ≤ edN T g := by
    by_cases z : edN T g = 0
    · rw [z, Int.add_zero, Int.ediv_eq_zero_of_lt h5.1 h5.2]; exact Int.le_refl 0
    · refine Int.ediv_le_of_le_mul hp ?_
      have w := Int.mul_le_mul_of_nonneg_right (show 1 ≤ edN T g by omega) (show 0 ≤ g 4 - 1 by omega)
      have w2 : edN T g * (g 4 - 1) = edN T g * g 4 - edN T g := by rw [Int.mul_sub, Int.mul_one]
      rw [Int.one_mul] at w
      omega
  have q3 := Int.emod_nonneg (g 5 + edN T g) (Int.ne_of_gt hp)
  have q4 := Int.emod_lt_of_pos (g 5 + edN T g) hp
  have main : edN T g ≤ T - u ∧ (0 < g 0 → T < g 1 + edN T g * g 0 ∧ g 1 + edN T g * g 0 ≤ 2109999 ∧ (g 1 ≤ T → g 1 + edN T g * g 0 ≤ T + g 0)) ∧ (g 0 = 0 → edN T g = 0) := by
    unfold edN edF
    by_cases c : g 1 ≠ -1 ∧ g 1 ≤ T ∧ 0 < g 0
    · rw [if_pos c]
      have u1 := h2 c.2.2
      have m1 := Int.ediv_le_self (a := T - g 1) (g 0) (by omega)
      have m2 := Int.ediv_mul_le (T - g 1) (b := g 0) (by omega)
      have m3 := Int.lt_ediv_add_one_mul_self (T - g 1) c.2.2
      rw [Int.add_mul, Int.one_mul] at m3
      rw [Int.add_mul, Int.one_mul]
      refine ⟨by omega, fun _ => ⟨by omega, by omega, fun _ => by omega⟩, fun q => by omega⟩
    · rw [if_neg c, Int.zero_mul]
      refine ⟨by omega, fun q => ?_, fun _ => rfl⟩
      have u1 := h2 q
      have : T < g 1 := by
        by_cases z : g 1 ≤ T
        · exact absurd ⟨by omega, z, q⟩ c
        · omega
      refine ⟨by omega, by omega, fun _ => by omega⟩
  obtain ⟨n1, n2, n3⟩ := main
  refine ⟨⟨h0, fun q => ?_, fun q => ⟨(n2 q).1, (n2 q).2.1⟩, ⟨?_, ?_, ?_⟩, h4, q3, q4⟩, fun q r => ⟨(n2 q).1, (n2 q).2.2 r⟩, fun k k1 k2 k3 k5 => ?_⟩
  · show g 1 + edN T g * g 0 = -1
    rw [n3 q, Int.zero_mul, h1 q]; rfl
  · show 0 ≤ g 3 + (g 5 + edN T g) / g 4; omega
  · show g 3 + (g 5 + edN T g) / g 4 ≤ g 2 + edN T g; omega
  · show g 2 + edN T g ≤ T; omega
  · match k with
    | 0 => rfl
    | 1 => exact absurd rfl k1
    | 2 => exact absurd rfl k2
    | 3 => exact absurd rfl k3
    | 4 => rfl
    | 5 => exact absurd rfl k5
    | j + 6 => rfl
theorem egN_rB {g : Nat → Int} {T u : Int} (hr : rB g) (h : sgI u g) (hu : 0 ≤ u) (hT2 : u ≤ 2100000) (hT3 : -2 ≤ T ∧ T ≤ 2100000) : rB (edE T g) := by
  by_cases hT : T ≤ u
  · rw [edE_0 h hT]; exact hr
  · obtain ⟨⟨a0, a1, a2, a3, a4, a5⟩, -, k9⟩ := edE_I h hu (show u ≤ T by omega) hT3.2
    intro k
    match k with
    | 0 => omega
    | 1 =>
      by_cases q : 0 < edE T g 0
      · have := a2 q; omega
      · have := a1 (by omega); omega
    | 2 => omega
    | 3 => omega
    | 4 => omega
    | 5 => omega
    | j + 6 => rw [k9 (j + 6) (by omega) (by omega) (by omega) (by omega)]; exact hr (j + 6)
/-- the segments up to A come, each behind the edges ahead of it; then the edges up to B -/
def psZ (t p : Nat → Int) (A B : Int) : Nat → (Nat → Int) → (Nat → Int)
  | 0, g => edE B g
  | n + 1, g => if g 9 < g 8 ∧ t (g 9).toNat ≤ A then psZ t p A B n (smZ t p (edE (t (g 9).toNat - 1) g)) else edE B g
/-- u: the time; the segments to come lie there or behind -/
def sgJ (u : Int) (t p g : Nat → Int) : Prop := sgI u g ∧ (0 ≤ g 9 ∧ g 9 ≤ g 8 ∧ g 8 ≤ 8) ∧ tpB (g 8) t p ∧ ∀ i : Nat, g 9 ≤ i → (i : Int) < g 8 → u ≤ t i
theorem smZ_J {u : Int} {t p g : Nat → Int} (h : sgJ u t p g) (hu : 0 ≤ u) (hlt : g 9 < g 8) (hg1 : 0 < g 0 → t (g 9).toNat - 1 < g 1) (hu1 : u ≤ t (g 9).toNat) : sgJ (t (g 9).toNat) t p (smZ t p g) := by
  obtain ⟨⟨a0, a1, a2, a3, a4, a5⟩, b, c, d⟩ := h
  have e : (((g 9).toNat : Nat) : Int) = g 9 := by omega
  obtain ⟨c1, c2, -⟩ := c (g 9).toNat (by omega)
  refine ⟨⟨c2, fun q => ?_, fun q => ?_, ⟨a3.1, a3.2.1, by show g 2 ≤ _; omega⟩, a4, a5⟩, ⟨?_, ?_, b.2.2⟩, c, fun i h1 h2 => ?_⟩
  · show (if 0 < p (g 9).toNat then _ else _) = _
    rw [if_neg (by have : p (g 9).toNat = 0 := q; omega)]
  · show _ < (if 0 < p (g 9).toNat then _ else _) ∧ (if 0 < p (g 9).toNat then _ else _) ≤ _
    have q' : 0 < p (g 9).toNat := q
    rw [if_pos q']; omega
  · show 0 ≤ g 9 + 1; omega
  · show g 9 + 1 ≤ g 8; omega
  · have h1' : g 9 + 1 ≤ (i : Int) := h1
    have := (c i h2).2.2 (g 9).toNat (by omega)
    omega
end SIGNAL
