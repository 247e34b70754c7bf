/-! The law: no float here is undefined. -/
theorem vf64_of {r : UInt64} (h : FP.Core.dIsNaN r = false) : vf_n64 r := by
  have h1 := (FP.Core.ne_nan r).mp ((FP.Core.notNaN_iff r).mp h)
  unfold vf_n64
  rw [UInt64.le_iff_toNat_le, FP.Core.mask_toNat]
  exact h1
theorem vf32_of {r : UInt32} (h : FP.Core.fIsNaN r = false) : vf_n32 r := by
  have h1 := (FP.Core.ne_nan32 r).mp ((FP.Core.notNaN_iff32 r).mp h)
  unfold vf_n32
  rw [UInt32.le_iff_toNat_le, FP.Core.mask_toNat32]
  exact h1
theorem flO_holds : flO := by
  refine ⟨fun s n hn => vf64_of ?_, fun x n hn => ?_, vf64_of ?_⟩
  · exact FP.Core.ddiv_out (FP.Core.l2d_fin s).notNaN (FP.Core.i2d_fin n) (fun z => FP.Core.i2d_ne_zero hn ((FP.Core.zero_bits2 _).mp z))
  · have h := FP.Core.fdiv_out (a := FP.i2f x) (b := FP.i2f n) (FP.Core.i2f_fin x).notNaN (FP.Core.i2f_fin n) (fun z => FP.Core.i2f_ne_zero hn ((FP.Core.zero_bits232 _).mp z))
    refine ⟨vf32_of h, vf64_of ?_⟩
    show FP.Core.dIsNaN (if FP.Core.fIsNaN (FP.Core.fdiv (FP.i2f x) (FP.i2f n)) then FP.nanF2D _ else FP.Core.f2d (FP.Core.fdiv (FP.i2f x) (FP.i2f n))) = false
    rw [h, if_neg (by decide)]
    exact FP.Core.f2d_out h
  · decide +kernel

