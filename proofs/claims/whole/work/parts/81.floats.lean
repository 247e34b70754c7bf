/-! The mean value, and the share of ticks. -/
section FLOATS
/-- no quotient here is undefined; shown where the library's laws of floats are at hand -/
def flO : Prop := (∀ (s : Int64) (n : Int32), n ≠ 0 → vf_n64 (FP.ddiv (FP.l2d s) (FP.i2d n))) ∧ (∀ x n : Int32, n ≠ 0 → vf_n32 (FP.fdiv (FP.i2f x) (FP.i2f n)) ∧ vf_n64 (FP.f2d (FP.fdiv (FP.i2f x) (FP.i2f n)))) ∧ vf_n64 (FP.f2d FP.fconst0)
variable {S : shp} {v : vl} {a b m N q : Nat} {h c g t p X : Nat → Int} {M : Nat → Nat → Int} {sv : Option sta} {ps : List sta} {re ca ch : Int}
def smL (w : Nat → Int) : Nat → Nat → Int64 → Int64
  | 0, _, s => s
  | f + 1, i, s => smL w f (i + 1) (s + Int32.toInt64 (J (w i)))
theorem smL_s {w : Nat → Int} {f i : Nat} {s : Int64} : smL w (f + 1) i s = smL w f (i + 1) (s + Int32.toInt64 (J (w i))) := rfl
def mvE (n : Nat) (s : Int64) : UInt64 := if n = 0 then FP.dconst0 else FP.ddiv (FP.l2d s) (FP.i2d (J (n : Int)))
theorem gc_meanLoop {n : Nat} (hF : flO) (ka : kin S a = some (0, 5)) (ga : gr S a 5 = some b) (hK : kpS S v b n M) : ∀ (F i : Nat) (s : Int64), i ≤ n → n - i < F →
    K_gc_meanValue_4 N F S v a s (J (i : Int)) = some (mvE n (smL (m4 M) (n - i) i s))
  | 0, i, s, _, h => absurd h (Nat.not_lt_zero _)
  | F + 1, i, s, hi, hn' => by
    have hn := hK.2.2.1
    show Y_gc_meanValue_4 N (K_gc_meanValue_4 N F S v) S v a s (J (i : Int)) = _
    unfold Y_gc_meanValue_4
    rw [grd_true _ ka, ga]
    simp only [Option.bind_some]
    rw [grd_true _ hK.1.1, gi_rw, hK.2.1]
    by_cases q : i < n
    · rw [if_pos ((J_lt (by omega) (by omega)).mpr (by omega)), st_valueAt hK q]
      simp only [Option.bind_some]
      rw [J_s, show n - i = (n - (i + 1)) + 1 by omega]
      exact gc_meanLoop hF ka ga hK F (i + 1) _ (by omega) (by omega)
    · rw [if_neg (fun z => by have := (J_lt (by omega) (by omega)).mp z; omega), show n - i = 0 by omega]
      show _ = some (mvE n s)
      unfold mvE
      by_cases y : n = 0
      · rw [if_pos y, if_neg (fun z => by have := (J_lt (by decide) (by omega)).mp z; omega)]
      · have ne : J (n : Int) ≠ 0 := fun z => by have := (J_eq (x := (n : Int)) (y := 0) (by omega) (by decide)).mp z; omega
        rw [if_neg y, if_pos ((J_lt (by decide) (by omega)).mpr (by omega)), grd_true _ (hF.1 s _ ne)]
theorem gc_meanValue (hF : flO) (hN : 100 ≤ N) (hR : cR S v a (h, c, g, t, p, M) sv ps re ca ch q) : F_gc_meanValue N a S v = some (mvE (h 5).toNat (smL (m4 M) (h 5).toNat 0 (JL 0))) := by
  obtain ⟨k0, g5, n0, -⟩ := cR_now hR
  have hK := kpS_R hR
  have hn := hK.2.2.1
  exact gc_meanLoop hF k0 g5 hK N 0 (JL 0) (by omega) (by omega)
theorem gm_meanLoop {n : Nat} (hF : flO) (hl : mdL S m) (hK : kpR v m n M) : ∀ (F i : Nat) (s : Int64), i ≤ n → n - i < F →
    K_gm_meanValue_9 N F S v m s (J (i : Int)) = some (mvE n (smL (m4 M) (n - i) i s), v)
  | 0, i, s, _, h => absurd h (Nat.not_lt_zero _)
  | F + 1, i, s, hi, hn' => by
    have hn := hK.2.1
    show Y_gm_meanValue_9 N (K_gm_meanValue_9 N F S) S v m s (J (i : Int)) = _
    unfold Y_gm_meanValue_9
    rw [grd_true _ hl.1, hl.2.1]
    simp only [Option.bind_some]
    rw [grd_true _ hl.2.2.1, gi_rw, hK.1]
    by_cases q : i < n
    · rw [if_pos ((J_lt (by omega) (by omega)).mpr (show (i : Int) < (n : Int) by omega)), gm_ofK hl hK q (by decide), mN4]
      simp only [Option.bind_some]
      rw [J_s, show n - i = (n - (i + 1)) + 1 by omega]
      exact gm_meanLoop hF hl hK F (i + 1) _ (by omega) (by omega)
    · rw [if_neg (fun z => by have := (J_lt (by omega) (by omega)).mp z; omega), show n - i = 0 by omega]
      show _ = some (mvE n s, v)
      unfold mvE
      by_cases y : n = 0
      · rw [if_pos y, if_pos (by rw [y]; rfl)]
      · have ne : J (n : Int) ≠ 0 := fun z => by have := (J_eq (x := (n : Int)) (y := 0) (by omega) (by decide)).mp z; omega
        rw [if_neg y, if_neg (show ¬ J (n : Int) = J 0 from ne), grd_true _ (hF.1 s _ ne)]
theorem gm_meanValue (hF : flO) (hN : 100 ≤ N) (hR : dR S v m (h, c, g, t, p, M) sv ps re ca ch) (hs : stV h c g t p M) : F_gm_meanValue N m S v = some (mvE (h 5).toNat (smL (m4 M) (h 5).toNat 0 (JL 0)), th v m 0) := by
  obtain ⟨hl, h1, -⟩ := hR
  have hK := kpR_R (x := 0) (h := h) (c := c) (g := g) (t := t) (p := p) (M := M) h1 hs
  have hn := hK.2.1
  unfold F_gm_meanValue
  rw [grd_true _ hl.1]
  simp only [lt_def, si_th]
  exact gm_meanLoop hF hl hK N 0 (JL 0) (by omega) (by omega)
-- the share of ticks
def tsE (c : Nat → Int) : UInt32 := if c 5 = 0 then FP.fconst0 else FP.fdiv (FP.i2f (J (c 6))) (FP.i2f (J (c 5)))
theorem tsE_64 (hF : flO) (hs : stV h c g t p M) : vf_n64 (FP.f2d (tsE c)) := by
  have b5 := hs.2.1.1.2.2.2.2.2
  have b4 := hs.2.1.2.1
  unfold tsE
  by_cases y : c 5 = 0
  · rw [if_pos y]
    exact hF.2.2
  · rw [if_neg y]
    exact (hF.2.1 _ _ (fun z => by have := (J_eq (x := c 5) (y := 0) (by omega) (by decide)).mp z; omega)).2
theorem gc_tickShare (hF : flO) (hR : cR S v a (h, c, g, t, p, M) sv ps re ca ch q) : F_gc_tickShare a S v = some (tsE c) := by
  obtain ⟨k0, g5, n0, r6, n1, r7, n2, hh, hc, hg⟩ := cR_now hR
  have hs := cR_V hR
  have b5 := hs.2.1.1.2.2.2.2.2
  have b4 := hs.2.1.2.1
  unfold F_gc_tickShare tsE
  rw [grd_true _ k0, g5]
  simp only [Option.bind_some]
  rw [grd_true _ n0, r6]
  simp only [Option.bind_some]
  rw [grd_true _ n1, gi_rw, gi_rw, hc 5 (by decide), hc 6 (by decide)]
  by_cases y : c 5 = 0
  · rw [if_pos y, if_neg (fun z => by have := (J_lt (by decide) (by omega)).mp z; omega)]
  · have ne : J (c 5) ≠ 0 := fun z => by have := (J_eq (x := c 5) (y := 0) (by omega) (by decide)).mp z; omega
    rw [if_neg y, if_pos ((J_lt (by decide) (by omega)).mpr (by omega)), grd_true _ (hF.2.1 _ _ ne).1]
theorem gm_tickShare (hF : flO) (hR : dR S v m (h, c, g, t, p, M) sv ps re ca ch) (hs : stV h c g t p M) : F_gm_tickShare m S v = some (tsE c, th v m 0) := by
  obtain ⟨hl, h1, -⟩ := hR
  have b5 := hs.2.1.1.2.2.2.2.2
  have b4 := hs.2.1.2.1
  have e10 : rw (th v m 0) (m + 1) 10 = J (c 6) := by rw [rw_th (by omega), h1.1 10 (by decide)]; rfl
  have e11 : rw (th v m 0) (m + 1) 11 = J (c 5) := by rw [rw_th (by omega), h1.1 11 (by decide)]; rfl
  unfold F_gm_tickShare tsE
  rw [grd_true _ hl.1]
  simp only [lt_def, si_th]
  rw [hl.2.1]
  simp only [Option.bind_some]
  rw [grd_true _ hl.2.2.1, gi_rw, gi_rw, e10, e11]
  by_cases y : c 5 = 0
  · rw [if_pos y, if_pos (by rw [y])]
  · have ne : J (c 5) ≠ 0 := fun z => by have := (J_eq (x := c 5) (y := 0) (by omega) (by decide)).mp z; omega
    rw [if_neg y, if_neg (show ¬ J (c 5) = J 0 from ne), grd_true _ (hF.2.1 _ _ ne).1]
end FLOATS
