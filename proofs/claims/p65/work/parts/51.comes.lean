/-! What comes next in the model. -/
section COMES
def mt (X : Nat → Int) : Nat → Int := fun i => X (23 + 2 * i)
def mp (X : Nat → Int) : Nat → Int := fun i => X (24 + 2 * i)
/-- what holds of the model's time, clock and signal all along -/
def mdI (X : Nat → Int) (T : Int) (c g : Nat → Int) : Prop := (∃ u, sgJ u (mt X) (mp X) g ∧ 0 ≤ u ∧ u ≤ 2100000) ∧ ckI c ∧ (c 4 ≤ 2101000 ∧ 9 * c 5 ≤ c 4) ∧ rB X ∧ (0 ≤ T ∧ T ≤ 2100000) ∧ (0 ≤ c 6 ∧ c 6 ≤ 2100000) ∧ (0 ≤ g 6 ∧ g 6 ≤ g 2) ∧ (0 ≤ g 7 ∧ g 7 ≤ g 3)
theorem mdI_sgB {X : Nat → Int} {T : Int} {c g : Nat → Int} (h : mdI X T c g) : sgB g := by
  obtain ⟨⟨u, hJ, h0, h1⟩, -⟩ := h
  exact sgI_B hJ.1 ⟨h0, h1⟩
theorem mdI_ckB {X : Nat → Int} {T : Int} {c g : Nat → Int} (h : mdI X T c g) : ckB c := by
  obtain ⟨-, h1, h2, -⟩ := h
  exact ckI_B h1 (by omega) (by omega)
theorem mdI_rB {X : Nat → Int} {T : Int} {c g : Nat → Int} (h : mdI X T c g) : rB (mk X T c g) := by
  obtain ⟨⟨u, hJ, q0, q1⟩, ⟨b0, b1, b2, b3, b4, b5⟩, h2, hX, hT, h6, s6, s7⟩ := h
  obtain ⟨a0, a1, a2, a3, a4, a5⟩ := sgI_B hJ.1 ⟨q0, q1⟩
  have a8 := hJ.2.1
  intro k
  match k with
  | 0 => show _ ≤ T ∧ T < _; omega
  | 1 => show _ ≤ c 0 ∧ c 0 < _; omega
  | 2 => show _ ≤ c 1 ∧ c 1 < _; omega
  | 3 => show _ ≤ c 2 ∧ c 2 < _; omega
  | 4 => show _ ≤ g 4 ∧ g 4 < _; omega
  | 5 => exact hX 5
  | 6 => exact hX 6
  | 7 => exact hX 7
  | 8 => show _ ≤ c 3 ∧ c 3 < _; omega
  | 9 => show _ ≤ c 4 ∧ c 4 < _; omega
  | 10 => show _ ≤ c 6 ∧ c 6 < _; omega
  | 11 => show _ ≤ c 5 ∧ c 5 < _; omega
  | 12 => show _ ≤ g 0 ∧ g 0 < _; omega
  | 13 => show _ ≤ g 1 ∧ g 1 < _; omega
  | 14 => show _ ≤ g 2 ∧ g 2 < _; omega
  | 15 => show _ ≤ g 5 ∧ g 5 < _; omega
  | 16 => show _ ≤ g 3 ∧ g 3 < _; omega
  | 17 => show _ ≤ g 2 - g 6 ∧ g 2 - g 6 < _; omega
  | 18 => show _ ≤ g 3 - g 7 ∧ g 3 - g 7 < _; omega
  | 19 => show _ ≤ g 8 ∧ g 8 < _; omega
  | 20 => show _ ≤ g 9 ∧ g 9 < _; omega
  | j + 21 => exact hX (j + 21)
def evK (t g : Nat → Int) : Int := if evS t g then 1 else if g 5 + 1 < g 4 then 3 else 4
def evT (t g : Nat → Int) : Int := if evS t g then t (g 9).toNat else g 1
theorem ev1_67 (t p g : Nat → Int) : ev1 t p g 6 = g 6 ∧ ev1 t p g 7 = g 7 ∧ g 2 ≤ ev1 t p g 2 ∧ g 3 ≤ ev1 t p g 3 ∧ ev1 t p g 4 = g 4 ∧ ev1 t p g 8 = g 8 := by
  unfold ev1
  split
  · exact ⟨rfl, rfl, Int.le_refl _, Int.le_refl _, rfl, rfl⟩
  · refine ⟨rfl, rfl, ?_, ?_, rfl, rfl⟩
    · show g 2 ≤ g 2 + 1; omega
    · show g 3 ≤ (if g 5 + 1 < g 4 then g 3 else g 3 + 1); split <;> omega
theorem mdI_ev {X : Nat → Int} {T : Int} {c g : Nat → Int} (h : mdI X T c g) (hK : keS (mt X) g ≤ 6300002) : mdI X (evT (mt X) g) c (ev1 (mt X) (mp X) g) ∧ keS (mt X) g < keS (mt X) (ev1 (mt X) (mp X) g) := by
  obtain ⟨⟨u, hJ, q0, q1⟩, h1, h2, hX, hT, h6, s6, s7⟩ := h
  obtain ⟨u', k1, k2, k3, k4, k5, k6, k7⟩ := ev1_J hJ q0 hK
  obtain ⟨e6, e7, e2, e3, -⟩ := ev1_67 (mt X) (mp X) g
  refine ⟨⟨⟨u', k1, by omega, k4⟩, h1, h2, hX, ?_, h6, by omega, by omega⟩, k5⟩
  unfold evT
  split
  · rename_i q
    have := k7 q
    omega
  · rename_i q
    have := k6 q
    omega
theorem mdI_ck {X : Nat → Int} {T : Int} {c g : Nat → Int} (h : mdI X T c g) (hK : c 4 ≤ 2100000) : mdI X (c 4) (tkZ c) g := by
  obtain ⟨hg, h1, h2, hX, hT, h6, s6, s7⟩ := h
  obtain ⟨k1, k2, k3⟩ := tkZ_inv h1
  have k0 := h1.2.2.2.2.1
  refine ⟨hg, k1, ⟨by omega, ?_⟩, hX, ⟨k0, hK⟩, ⟨k0, hK⟩, s6, s7⟩
  show 9 * (c 5 + 1) ≤ _
  omega
theorem keS_mod (t g : Nat → Int) : keS t g % 3 ≠ 1 := by
  unfold keS
  split
  · omega
  · split <;> omega
end COMES
