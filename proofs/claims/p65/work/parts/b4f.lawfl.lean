/-! No float that the law compares is undefined. -/
section LAWFL
theorem flC_holds : flC := by
  intro x n hn
  have h := FP.Core.fdiv_out (a := FP.i2f x) (b := FP.i2f n) (FP.Core.i2f_fin x).notNaN (FP.Core.i2f_fin n) (fun z => FP.Core.i2f_ne_zero hn ((FP.Core.zero_bits232 _).mp z))
  have hv := (FP.Core.notNaN_iff32 _).mp h
  show Op.cmpValue (FP.Core.fcmp (FP.Core.fdiv (FP.i2f x) (FP.i2f n)) (FP.Core.fdiv (FP.i2f x) (FP.i2f n))) .l = J 0
  rw [FP.Core.fcmp_self hv]
  rfl
end LAWFL
