/-! The mean value, and the share of ticks. -/
section FLOATS
/-- no quotient here is undefined; shown where the library's laws of floats are at hand -/
def flO : Prop := (∀ (s : Int64) (n : Int32), n ≠ 0 → vf_n64 (FP.ddiv (FP.l2d s) (FP.i2d n))) ∧ (∀ x n : Int32, n ≠ 0 → vf_n32 (FP.fdiv (FP.i2f x) (FP.i2f n)) ∧ vf_n64 (FP.f2d (FP.fdiv (FP.i2f x) (FP.i2f n)))) ∧ vf_n64 (FP.f2d FP.fconst0)
variable {S : shp} {v : vl} {a b m N q : Nat} {h c g t p X : Nat → Int} {M : Nat → Nat → Int} {sv : Option sta} {ps : List sta} {re ca ch : Int}
-- the share of ticks
def tsE (c : Nat → Int) : UInt32 := if c 5 = 0 then FP.fconst0 else FP.fdiv (FP.i2f (J (c 6))) (FP.i2f (J (c 5)))
theorem gc_tickShare (hF : flO) (hR : cR S v a (h, c, g, t, p, M) sv ps re ca ch q) : F_gc_tickShare a S v = some (tsE c) := by
  obtain ⟨k0, g5, n0, r6, n1, r7, n2, hh, hc, hg⟩ := cR_now hR
  have hs := cR_V hR
  have b5 := hs.2.1.1.2.2.2.2.2
  have b4 := hs.2.1.2.1
  unfold F_gc_tickShare tsE
  rw [grd_true _ k0, g5]
  simp only [Option.bind_some]
  rw [grd_true _ n0, r6]
  simp only [Option.bind_some]
  rw [grd_true _ n1, gi_rw, gi_rw, hc 5 (by decide), hc 6 (by decide)]
  by_cases y : c 5 = 0
  · rw [if_pos y, if_neg (fun z => by have := (J_lt (by decide) (by omega)).mp z; omega)]
  · have ne : J (c 5) ≠ 0 := fun z => by have := (J_eq (x := c 5) (y := 0) (by omega) (by decide)).mp z; omega
    rw [if_neg y, if_pos ((J_lt (by decide) (by omega)).mpr (by omega)), grd_true _ (hF.2.1 _ _ ne).1]
end FLOATS
