/-! More that reads alone. -/
section READS2
variable {S : shp} {v : vl} {a m N q : Nat} {h c g t p : Nat → Int} {M : Nat → Nat → Int} {sv : Option sta} {ps : List sta} {re ca ch : Int}
/-- codes of two kinds of throws: of an index, of an argument -/
def f21 (c : Nat) : Nat := if c = 1 then 1 else 0
-- measurements
def measO (h : Nat → Int) (M : Nat → Nat → Int) (i w : Int) : Nat ⊕ Int := if 0 ≤ i ∧ i < h 5 then (if 0 ≤ w ∧ w ≤ 7 then .inr (mN (M i.toNat) w) else .inl 2) else .inl 1
theorem gc_found {i : Int} (hR : cR S v a (h, c, g, t, p, M) sv ps re ca ch q) (hi : -2147483648 ≤ i ∧ i < 2147483648) : (0 ≤ i ∧ i < h 5 → ∃ r, F_gc_found a (J i) S v = some (.inr (some r)) ∧ kin S r = some (0, 1) ∧ ag 7 (rw v r) (M i.toNat)) ∧ (¬ (0 ≤ i ∧ i < h 5) → F_gc_found a (J i) S v = some (.inl 1)) := by
  obtain ⟨k0, g5, n0, r6, n1, r7, n2, hh, hc, hg⟩ := cR_now hR
  have hV := cR_V hR
  have hv5 := hV.1.2.2.2.2
  have hms : msR S v (a + 11 + 5) (h 5) M := hR.2.1.1.2
  unfold F_gc_found
  simp only [k0, g5, n0, grd_pos, Option.bind_some]
  refine ⟨fun z => ?_, fun z => ?_⟩
  · obtain ⟨r, s1, s2, s3⟩ := st_at_in (i := i.toNat) hR.2.1.1.1.1 (hh 5 (by decide)) hv5.2 hms (by omega)
    rw [show ((i.toNat : Nat) : Int) = i by omega] at s1
    rw [s1]
    exact ⟨r, rfl, s2, s3⟩
  · rw [st_at_out hR.2.1.1.1.1 (hh 5 (by decide)) hv5 hi (by omega)]
    rfl
theorem gc_measurement {i w : Int} (hN : 100 ≤ N) (hR : cR S v a (h, c, g, t, p, M) sv ps re ca ch q) (hi : -2147483648 ≤ i ∧ i < 2147483648) (hw : -2147483648 ≤ w ∧ w < 2147483648) : F_gc_measurement N a (J i) (J w) S v = some (rC f21 (measO h M i w)) := by
  have hV := cR_V hR
  obtain ⟨k0, -⟩ := cR_now hR
  obtain ⟨f1, f2⟩ := gc_found hR hi
  unfold F_gc_measurement measO
  rw [grd_true _ k0]
  by_cases z : 0 ≤ i ∧ i < h 5
  · obtain ⟨r, s1, s2, s3⟩ := f1 z
    rw [s1, bx_r, gc_within hw (by decide) (by decide), if_pos z]
    simp only [oc2]
    by_cases y : 0 ≤ w ∧ w ≤ 7
    · rw [if_pos y, if_pos y, bx_r, grd_true _ s2, ms_number hN s2 s3 (hV.2.2.2.2.2 i.toNat (by omega)) y]
      rfl
    · rw [if_neg y, if_neg y, bx_l]
      rfl
  · rw [f2 z, bx_l, if_neg z]
    rfl
-- what stands in fields
/-- the accounts -/
def auI (g : Nat → Int) : Int32 := if J (g 2) - J (g 6) = J (g 4) * (J (g 3) - J (g 7)) + J (g 5) then J 1 else J 0
theorem gc_addsUp (hR : cR S v a (h, c, g, t, p, M) sv ps re ca ch q) : F_gc_addsUp a S v = some (auI g) := by
  obtain ⟨k0, g5, n0, r6, n1, r7, n2, hh, hc, hg⟩ := cR_now hR
  unfold F_gc_addsUp F_sg_isSumRight auI
  simp only [k0, g5, n0, r7, n2, grd_pos, Option.bind_some, gi_x, hg 2 (by decide), hg 6 (by decide), hg 4 (by decide), hg 3 (by decide), hg 7 (by decide), hg 5 (by decide)]
  by_cases z : J (g 2) - J (g 6) = J (g 4) * (J (g 3) - J (g 7)) + J (g 5)
  · rw [if_pos z, if_pos z]
    exact grd_true _ (by decide)
  · rw [if_neg z, if_neg z]
    exact grd_true _ (by decide)
-- clock edges to a DRIFT
end READS2
