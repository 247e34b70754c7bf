/-! The law: more calls. -/
section LAWCALLS2
variable {S S' : shp} {v w v' u : vl} {a b m N n q r len l k oa p0 : Nat} {ln : Nat → Nat} {W : Nat → Nat → Int} {i23 : shp → vl → Nat → Nat → Nat → Nat → Int32 → Option (Int32 × shp × vl)}
theorem st_gateFor (hF : flO) (hN : 7000000 ≤ N) (hq : q ≤ 1000) (hk : k + 5 < n ∧ n ≤ 100000) (hI : LI S v a m oa p0 n ln W q) : ST N i23 S p0 a m oa k n ln W q (K_lw_law_1549 N i23 S v p0 a m oa (J (k : Int))) := by
  obtain ⟨s, hw, hR0, hd0, hO⟩ := hI
  obtain ⟨⟨h, c, g, t, p, M⟩, sv, ps, re, ca, ch⟩ := s
  have hR : cR S v a (h, c, g, t, p, M) sv ps re ca ch q := hR0
  have hd : dR S v m (h, c, g, t, p, M) sv ps re ca ch := hd0
  have hs : stV h c g t p M := cR_V hR
  have hp0 : kin S p0 = some (11, n) := hO.2.2.2.2.1
  obtain ⟨x1, e1, b1⟩ := sc_ar (gi v p0 (Int32.toNatClampNeg (J (k : Int) + J 1)))
  have v1 : vp_in (J (k : Int) + J 1) (alen S p0) := sc_in (j := 1) hp0 hk (by decide)
  obtain ⟨o, ho⟩ : ∃ o : Nat ⊕ Int, o = (rgO 1 6 x1 (gfZ t p c g x1)) := ⟨_, rfl⟩
  have hU : UC (F_gc_gateFor N a (J x1) S v) (fun _ => 0) (liO o ((h, c, g, t, p, M), sv, ps, re, ca, ch)) a (q + 1) S v := by rw [ho]; exact UC_QC (s := ((h, c, g, t, p, M), sv, ps, re, ca, ch)) (gc_gateFor (by omega) hw hR b1)
  have hC : ∀ c, o = .inl c → c = 1 := by
    intro c hc
    rw [ho] at hc
    unfold rgO at hc
    (repeat' split at hc) <;> cases hc <;> decide
  have hB0 : ∀ c, o = .inl c → 0 < c ∧ c < 100 := fun c hc => by have := hC c hc; omega
  have hB : thB (liO o ((h, c, g, t, p, M), sv, ps, re, ca, ch)) := thB_li hB0
  obtain ⟨S', v', l1, l2⟩ := lw_UC (thr := (fun k0 => if k0 = 0 then lt (skip S 6) fun S9 => some (((J 1), S9, v)) else none)) hw hR0 hd0 hO hU (fun c hc => by rcases hC c (li_inl hc) with rfl <;> rfl) hB
  have hd1 : dR S' v' m (h, c, g, t, p, M) sv ps re ca ch := l2.2.2.1
  have f1 : F_lw_gateFor N a (J x1) oa S v = some (J (uThr (liO o ((h, c, g, t, p, M), sv, ps, re, ca, ch))), S', v') := by
    unfold F_lw_gateFor
    rw [grd_true _ hR.1.1.1]
    exact l1
  obtain ⟨u, t1, t2⟩ := law_tail (N := N) (i23 := i23) (p4 := J (k : Int)) (mF := F_gm_gateFor N m (J x1) S' v') l2 hB (UM_QM l2.2.2.1 hs (by rw [ho]; exact gm_gateFor (by omega) hd1 hs b1))
  refine ⟨S', u, ?_, t2, l2.2.2.2.2.1⟩
  have hp' : kin S' p0 = some (11, n) := l2.2.2.2.1.2.2.2.2.1
  have w1 : vp_in (J (k : Int) + J 1) (alen S' p0) := sc_in (j := 1) hp' hk (by decide)
  have y1 : gi v' p0 (Int32.toNatClampNeg (J (k : Int) + J 1)) = J x1 := by rw [gi_rw, l2.2.2.2.2.2.1]; exact e1
  unfold K_lw_law_1549
  rw [grd_true _ (sc_P hp0), grd_true _ v1, e1, f1]
  simp only [Option.bind_some]
  rw [grd_true _ (sc_P hp'), grd_true _ w1, y1]
  exact t1
theorem st_periodsFor (hF : flO) (hN : 7000000 ≤ N) (hq : q ≤ 1000) (hk : k + 5 < n ∧ n ≤ 100000) (hI : LI S v a m oa p0 n ln W q) : ST N i23 S p0 a m oa k n ln W q (K_lw_law_1605 N i23 S v p0 a m oa (J (k : Int))) := by
  obtain ⟨s, hw, hR0, hd0, hO⟩ := hI
  obtain ⟨⟨h, c, g, t, p, M⟩, sv, ps, re, ca, ch⟩ := s
  have hR : cR S v a (h, c, g, t, p, M) sv ps re ca ch q := hR0
  have hd : dR S v m (h, c, g, t, p, M) sv ps re ca ch := hd0
  have hs : stV h c g t p M := cR_V hR
  have hp0 : kin S p0 = some (11, n) := hO.2.2.2.2.1
  obtain ⟨x1, e1, b1⟩ := sc_ar (gi v p0 (Int32.toNatClampNeg (J (k : Int) + J 1)))
  have v1 : vp_in (J (k : Int) + J 1) (alen S p0) := sc_in (j := 1) hp0 hk (by decide)
  obtain ⟨o, ho⟩ : ∃ o : Nat ⊕ Int, o = (rgO 1 6 x1 (pfZ t p c g x1)) := ⟨_, rfl⟩
  have hU : UC (F_gc_periodsFor N a (J x1) S v) (fun _ => 0) (liO o ((h, c, g, t, p, M), sv, ps, re, ca, ch)) a (q + 1) S v := by rw [ho]; exact UC_QC (s := ((h, c, g, t, p, M), sv, ps, re, ca, ch)) (gc_periodsFor (by omega) hw hR b1)
  have hC : ∀ c, o = .inl c → c = 1 := by
    intro c hc
    rw [ho] at hc
    unfold rgO at hc
    (repeat' split at hc) <;> cases hc <;> decide
  have hB0 : ∀ c, o = .inl c → 0 < c ∧ c < 100 := fun c hc => by have := hC c hc; omega
  have hB : thB (liO o ((h, c, g, t, p, M), sv, ps, re, ca, ch)) := thB_li hB0
  obtain ⟨S', v', l1, l2⟩ := lw_UC (thr := (fun k0 => if k0 = 0 then lt (skip S 6) fun S9 => some (((J 1), S9, v)) else none)) hw hR0 hd0 hO hU (fun c hc => by rcases hC c (li_inl hc) with rfl <;> rfl) hB
  have hd1 : dR S' v' m (h, c, g, t, p, M) sv ps re ca ch := l2.2.2.1
  have f1 : F_lw_periodsFor N a (J x1) oa S v = some (J (uThr (liO o ((h, c, g, t, p, M), sv, ps, re, ca, ch))), S', v') := by
    unfold F_lw_periodsFor
    rw [grd_true _ hR.1.1.1]
    exact l1
  obtain ⟨u, t1, t2⟩ := law_tail (N := N) (i23 := i23) (p4 := J (k : Int)) (mF := F_gm_periodsFor N m (J x1) S' v') l2 hB (UM_QM l2.2.2.1 hs (by rw [ho]; exact gm_periodsFor (by omega) hd1 hs b1))
  refine ⟨S', u, ?_, t2, l2.2.2.2.2.1⟩
  have hp' : kin S' p0 = some (11, n) := l2.2.2.2.1.2.2.2.2.1
  have w1 : vp_in (J (k : Int) + J 1) (alen S' p0) := sc_in (j := 1) hp' hk (by decide)
  have y1 : gi v' p0 (Int32.toNatClampNeg (J (k : Int) + J 1)) = J x1 := by rw [gi_rw, l2.2.2.2.2.2.1]; exact e1
  unfold K_lw_law_1605
  rw [grd_true _ (sc_P hp0), grd_true _ v1, e1, f1]
  simp only [Option.bind_some]
  rw [grd_true _ (sc_P hp'), grd_true _ w1, y1]
  exact t1
theorem st_longestGate (hF : flO) (hN : 7000000 ≤ N) (hq : q ≤ 1000) (hk : k + 5 < n ∧ n ≤ 100000) (hI : LI S v a m oa p0 n ln W q) : ST N i23 S p0 a m oa k n ln W q (K_lw_law_1661 N i23 S v p0 a m oa (J (k : Int))) := by
  obtain ⟨s, hw, hR0, hd0, hO⟩ := hI
  obtain ⟨⟨h, c, g, t, p, M⟩, sv, ps, re, ca, ch⟩ := s
  have hR : cR S v a (h, c, g, t, p, M) sv ps re ca ch q := hR0
  have hd : dR S v m (h, c, g, t, p, M) sv ps re ca ch := hd0
  have hs : stV h c g t p M := cR_V hR
  have hp0 : kin S p0 = some (11, n) := hO.2.2.2.2.1
  obtain ⟨S', v', u, c1, m1, l1, r1, kp, t1, t2⟩ := law_D (mF := fun S w => F_gm_longestGate N m S w) hw hR0 hd0 hO (UD_QD (s := ((h, c, g, t, p, M), sv, ps, re, ca, ch)) (gc_longestGate (by omega) hw hR)) (fun S1 u hd1 => UM_QM hd1 hs (gm_longestGate (by omega) hd1 hs))
  try dsimp only at m1
  refine ⟨S', u, ?_, t1, t2⟩
  unfold K_lw_law_1661
  rw [grd_true _ hR.1.1.1, c1]
  simp only [Option.bind_some]
  rw [grd_true _ l1.1, m1]
  simp only [Option.bind_some, if_true]
theorem st_mostPeriods (hF : flO) (hN : 7000000 ≤ N) (hq : q ≤ 1000) (hk : k + 5 < n ∧ n ≤ 100000) (hI : LI S v a m oa p0 n ln W q) : ST N i23 S p0 a m oa k n ln W q (K_lw_law_1674 N i23 S v p0 a m oa (J (k : Int))) := by
  obtain ⟨s, hw, hR0, hd0, hO⟩ := hI
  obtain ⟨⟨h, c, g, t, p, M⟩, sv, ps, re, ca, ch⟩ := s
  have hR : cR S v a (h, c, g, t, p, M) sv ps re ca ch q := hR0
  have hd : dR S v m (h, c, g, t, p, M) sv ps re ca ch := hd0
  have hs : stV h c g t p M := cR_V hR
  have hp0 : kin S p0 = some (11, n) := hO.2.2.2.2.1
  obtain ⟨S', v', u, c1, m1, l1, r1, kp, t1, t2⟩ := law_D (mF := fun S w => F_gm_mostPeriods N m S w) hw hR0 hd0 hO (UD_QD (s := ((h, c, g, t, p, M), sv, ps, re, ca, ch)) (gc_mostPeriods (by omega) hw hR)) (fun S1 u hd1 => UM_QM hd1 hs (gm_mostPeriods (by omega) hd1 hs))
  try dsimp only at m1
  refine ⟨S', u, ?_, t1, t2⟩
  unfold K_lw_law_1674
  rw [grd_true _ hR.1.1.1, c1]
  simp only [Option.bind_some]
  rw [grd_true _ l1.1, m1]
  simp only [Option.bind_some, if_true]
theorem st_gateNear (hF : flO) (hN : 7000000 ≤ N) (hq : q ≤ 1000) (hk : k + 5 < n ∧ n ≤ 100000) (hI : LI S v a m oa p0 n ln W q) : ST N i23 S p0 a m oa k n ln W q (K_lw_law_1687 N i23 S v p0 a m oa (J (k : Int))) := by
  obtain ⟨s, hw, hR0, hd0, hO⟩ := hI
  obtain ⟨⟨h, c, g, t, p, M⟩, sv, ps, re, ca, ch⟩ := s
  have hR : cR S v a (h, c, g, t, p, M) sv ps re ca ch q := hR0
  have hd : dR S v m (h, c, g, t, p, M) sv ps re ca ch := hd0
  have hs : stV h c g t p M := cR_V hR
  have hp0 : kin S p0 = some (11, n) := hO.2.2.2.2.1
  obtain ⟨x1, e1, b1⟩ := sc_ar (gi v p0 (Int32.toNatClampNeg (J (k : Int) + J 1)))
  have v1 : vp_in (J (k : Int) + J 1) (alen S p0) := sc_in (j := 1) hp0 hk (by decide)
  obtain ⟨o, ho⟩ : ∃ o : Nat ⊕ Int, o = (rgO 0 2000000 x1 (gnZ h c g t p x1)) := ⟨_, rfl⟩
  have hU : UC (F_gc_gateNear N a (J x1) S v) (fun _ => 0) (liO o ((h, c, g, t, p, M), sv, ps, re, ca, ch)) a (q + 1) S v := by rw [ho]; exact UC_QC (s := ((h, c, g, t, p, M), sv, ps, re, ca, ch)) (gc_gateNear (by omega) hw hR b1)
  have hC : ∀ c, o = .inl c → c = 1 := by
    intro c hc
    rw [ho] at hc
    unfold rgO at hc
    (repeat' split at hc) <;> cases hc <;> decide
  have hB0 : ∀ c, o = .inl c → 0 < c ∧ c < 100 := fun c hc => by have := hC c hc; omega
  have hB : thB (liO o ((h, c, g, t, p, M), sv, ps, re, ca, ch)) := thB_li hB0
  obtain ⟨S', v', l1, l2⟩ := lw_UC (thr := (fun k0 => if k0 = 0 then lt (skip S 6) fun S9 => some (((J 1), S9, v)) else none)) hw hR0 hd0 hO hU (fun c hc => by rcases hC c (li_inl hc) with rfl <;> rfl) hB
  have hd1 : dR S' v' m (h, c, g, t, p, M) sv ps re ca ch := l2.2.2.1
  have f1 : F_lw_gateNear N a (J x1) oa S v = some (J (uThr (liO o ((h, c, g, t, p, M), sv, ps, re, ca, ch))), S', v') := by
    unfold F_lw_gateNear
    rw [grd_true _ hR.1.1.1]
    exact l1
  obtain ⟨u, t1, t2⟩ := law_tail (N := N) (i23 := i23) (p4 := J (k : Int)) (mF := F_gm_gateNear N m (J x1) S' v') l2 hB (UM_QM l2.2.2.1 hs (by rw [ho]; exact gm_gateNear (by omega) hd1 hs b1))
  refine ⟨S', u, ?_, t2, l2.2.2.2.2.1⟩
  have hp' : kin S' p0 = some (11, n) := l2.2.2.2.1.2.2.2.2.1
  have w1 : vp_in (J (k : Int) + J 1) (alen S' p0) := sc_in (j := 1) hp' hk (by decide)
  have y1 : gi v' p0 (Int32.toNatClampNeg (J (k : Int) + J 1)) = J x1 := by rw [gi_rw, l2.2.2.2.2.2.1]; exact e1
  unfold K_lw_law_1687
  rw [grd_true _ (sc_P hp0), grd_true _ v1, e1, f1]
  simp only [Option.bind_some]
  rw [grd_true _ (sc_P hp'), grd_true _ w1, y1]
  exact t1
theorem st_bestPrescale (hF : flO) (hN : 7000000 ≤ N) (hq : q ≤ 1000) (hk : k + 5 < n ∧ n ≤ 100000) (hI : LI S v a m oa p0 n ln W q) : ST N i23 S p0 a m oa k n ln W q (K_lw_law_1743 N i23 S v p0 a m oa (J (k : Int))) := by
  obtain ⟨s, hw, hR0, hd0, hO⟩ := hI
  obtain ⟨⟨h, c, g, t, p, M⟩, sv, ps, re, ca, ch⟩ := s
  have hR : cR S v a (h, c, g, t, p, M) sv ps re ca ch q := hR0
  have hd : dR S v m (h, c, g, t, p, M) sv ps re ca ch := hd0
  have hs : stV h c g t p M := cR_V hR
  have hp0 : kin S p0 = some (11, n) := hO.2.2.2.2.1
  obtain ⟨S', v', u, c1, m1, l1, r1, kp, t1, t2⟩ := law_D (mF := fun S w => F_gm_bestPrescale N m S w) hw hR0 hd0 hO (UD_QD (s := ((h, c, g, t, p, M), sv, ps, re, ca, ch)) (gc_bestPrescale (by omega) hw hR hO.1.1)) (fun S1 u hd1 => UM_QM hd1 hs (gm_bestPrescale (by omega) hd1 hs))
  try dsimp only at m1
  refine ⟨S', u, ?_, t1, t2⟩
  unfold K_lw_law_1743
  rw [grd_true _ hR.1.1.1, c1]
  simp only [Option.bind_some]
  rw [grd_true _ l1.1, m1]
  simp only [Option.bind_some, if_true]
theorem st_correctionFor (hF : flO) (hN : 7000000 ≤ N) (hq : q ≤ 1000) (hk : k + 5 < n ∧ n ≤ 100000) (hI : LI S v a m oa p0 n ln W q) : ST N i23 S p0 a m oa k n ln W q (K_lw_law_1756 N i23 S v p0 a m oa (J (k : Int))) := by
  obtain ⟨s, hw, hR0, hd0, hO⟩ := hI
  obtain ⟨⟨h, c, g, t, p, M⟩, sv, ps, re, ca, ch⟩ := s
  have hR : cR S v a (h, c, g, t, p, M) sv ps re ca ch q := hR0
  have hd : dR S v m (h, c, g, t, p, M) sv ps re ca ch := hd0
  have hs : stV h c g t p M := cR_V hR
  have hp0 : kin S p0 = some (11, n) := hO.2.2.2.2.1
  obtain ⟨x1, e1, b1⟩ := sc_ar (gi v p0 (Int32.toNatClampNeg (J (k : Int) + J 1)))
  have v1 : vp_in (J (k : Int) + J 1) (alen S p0) := sc_in (j := 1) hp0 hk (by decide)
  obtain ⟨o, ho⟩ : ∃ o : Nat ⊕ Int, o = (rgO 0 2000000 x1 (cfO h c g t p x1)) := ⟨_, rfl⟩
  have hU : UC (F_gc_correctionFor N a (J x1) S v) (fun _ => 0) (liO o ((h, c, g, t, p, M), sv, ps, re, ca, ch)) a (q + 1) S v := by rw [ho]; exact UC_QC (s := ((h, c, g, t, p, M), sv, ps, re, ca, ch)) (gc_correctionFor (by omega) hw hR b1)
  have hC : ∀ c, o = .inl c → c = 1 := by
    intro c hc
    rw [ho] at hc
    unfold rgO at hc
    (repeat' split at hc) <;> cases hc <;> decide
  have hB0 : ∀ c, o = .inl c → 0 < c ∧ c < 100 := fun c hc => by have := hC c hc; omega
  have hB : thB (liO o ((h, c, g, t, p, M), sv, ps, re, ca, ch)) := thB_li hB0
  obtain ⟨S', v', l1, l2⟩ := lw_UC (thr := (fun k0 => if k0 = 0 then lt (skip S 6) fun S9 => some (((J 1), S9, v)) else none)) hw hR0 hd0 hO hU (fun c hc => by rcases hC c (li_inl hc) with rfl <;> rfl) hB
  have hd1 : dR S' v' m (h, c, g, t, p, M) sv ps re ca ch := l2.2.2.1
  have f1 : F_lw_correctionFor N a (J x1) oa S v = some (J (uThr (liO o ((h, c, g, t, p, M), sv, ps, re, ca, ch))), S', v') := by
    unfold F_lw_correctionFor
    rw [grd_true _ hR.1.1.1]
    exact l1
  obtain ⟨u, t1, t2⟩ := law_tail (N := N) (i23 := i23) (p4 := J (k : Int)) (mF := F_gm_correctionFor N m (J x1) S' v') l2 hB (UM_QM l2.2.2.1 hs (by rw [ho]; exact gm_correctionFor (by omega) hd1 hs b1))
  refine ⟨S', u, ?_, t2, l2.2.2.2.2.1⟩
  have hp' : kin S' p0 = some (11, n) := l2.2.2.2.1.2.2.2.2.1
  have w1 : vp_in (J (k : Int) + J 1) (alen S' p0) := sc_in (j := 1) hp' hk (by decide)
  have y1 : gi v' p0 (Int32.toNatClampNeg (J (k : Int) + J 1)) = J x1 := by rw [gi_rw, l2.2.2.2.2.2.1]; exact e1
  unfold K_lw_law_1756
  rw [grd_true _ (sc_P hp0), grd_true _ v1, e1, f1]
  simp only [Option.bind_some]
  rw [grd_true _ (sc_P hp'), grd_true _ w1, y1]
  exact t1
theorem st_valueWith (hF : flO) (hN : 7000000 ≤ N) (hq : q ≤ 1000) (hk : k + 5 < n ∧ n ≤ 100000) (hI : LI S v a m oa p0 n ln W q) : ST N i23 S p0 a m oa k n ln W q (K_lw_law_1812 N i23 S v p0 a m oa (J (k : Int))) := by
  obtain ⟨s, hw, hR0, hd0, hO⟩ := hI
  obtain ⟨⟨h, c, g, t, p, M⟩, sv, ps, re, ca, ch⟩ := s
  have hR : cR S v a (h, c, g, t, p, M) sv ps re ca ch q := hR0
  have hd : dR S v m (h, c, g, t, p, M) sv ps re ca ch := hd0
  have hs : stV h c g t p M := cR_V hR
  have hp0 : kin S p0 = some (11, n) := hO.2.2.2.2.1
  obtain ⟨x1, e1, b1⟩ := sc_ar (gi v p0 (Int32.toNatClampNeg (J (k : Int) + J 1)))
  have v1 : vp_in (J (k : Int) + J 1) (alen S p0) := sc_in (j := 1) hp0 hk (by decide)
  obtain ⟨x2, e2, b2⟩ := sc_ar (gi v p0 (Int32.toNatClampNeg (J (k : Int) + J 2)))
  have v2 : vp_in (J (k : Int) + J 2) (alen S p0) := sc_in (j := 2) hp0 hk (by decide)
  obtain ⟨o, ho⟩ : ∃ o : Nat ⊕ Int, o = (vwO h c g M x1 x2) := ⟨_, rfl⟩
  have hU : F_gc_valueWith a (J x1) (J x2) S v = some (rC f21 o) := by rw [ho]; exact gc_valueWith hR b1 b2
  have hC : ∀ c, o = .inl c → c = 1 ∨ c = 2 := by
    intro c hc
    rw [ho] at hc
    unfold vwO at hc
    (repeat' split at hc) <;> cases hc <;> decide
  have hB0 : ∀ c, o = .inl c → 0 < c ∧ c < 100 := fun c hc => by have := hC c hc; omega
  have hB : thB (liO o ((h, c, g, t, p, M), sv, ps, re, ca, ch)) := thB_li hB0
  obtain ⟨S', v', l1, l2⟩ := lw_C (s := ((h, c, g, t, p, M), sv, ps, re, ca, ch)) (thr := (fun k0 => if k0 = 1 then lt (skip S 6) fun S6 => some (((J 1), S6, v)) else if k0 = 0 then lt (skip S 6) fun S8 => some (((J 2), S8, v)) else none)) hw hR0 hd0 hO hU (fun c hc => by rcases hC c hc with rfl | rfl <;> rfl) hB0
  have hd1 : dR S' v' m (h, c, g, t, p, M) sv ps re ca ch := l2.2.2.1
  have f1 : F_lw_valueWith a (J x1) (J x2) oa S v = some (J (uThr (liO o ((h, c, g, t, p, M), sv, ps, re, ca, ch))), S', v') := by
    unfold F_lw_valueWith
    rw [grd_true _ hR.1.1.1]
    exact l1
  obtain ⟨u, t1, t2⟩ := law_tail (N := N) (i23 := i23) (p4 := J (k : Int)) (mF := F_gm_valueWith m (J x1) (J x2) S' v') l2 hB (UM_QM l2.2.2.1 hs (by rw [ho]; exact QM_th (gm_valueWith hd1 hs b1 b2)))
  refine ⟨S', u, ?_, t2, l2.2.2.2.2.1⟩
  have hp' : kin S' p0 = some (11, n) := l2.2.2.2.1.2.2.2.2.1
  have w1 : vp_in (J (k : Int) + J 1) (alen S' p0) := sc_in (j := 1) hp' hk (by decide)
  have y1 : gi v' p0 (Int32.toNatClampNeg (J (k : Int) + J 1)) = J x1 := by rw [gi_rw, l2.2.2.2.2.2.1]; exact e1
  have w2 : vp_in (J (k : Int) + J 2) (alen S' p0) := sc_in (j := 2) hp' hk (by decide)
  have y2 : gi v' p0 (Int32.toNatClampNeg (J (k : Int) + J 2)) = J x2 := by rw [gi_rw, l2.2.2.2.2.2.1]; exact e2
  unfold K_lw_law_1812
  rw [grd_true _ (sc_P hp0), grd_true _ v1, grd_true _ v2, e1, e2, f1]
  simp only [Option.bind_some]
  rw [grd_true _ (sc_P hp'), grd_true _ w1, grd_true _ w2, y1, y2]
  exact t1
theorem st_median (hF : flO) (hN : 7000000 ≤ N) (hq : q ≤ 1000) (hk : k + 5 < n ∧ n ≤ 100000) (hI : LI S v a m oa p0 n ln W q) : ST N i23 S p0 a m oa k n ln W q (K_lw_law_1921 N i23 S v p0 a m oa (J (k : Int))) := by
  obtain ⟨s, hw, hR0, hd0, hO⟩ := hI
  obtain ⟨⟨h, c, g, t, p, M⟩, sv, ps, re, ca, ch⟩ := s
  have hR : cR S v a (h, c, g, t, p, M) sv ps re ca ch q := hR0
  have hd : dR S v m (h, c, g, t, p, M) sv ps re ca ch := hd0
  have hs : stV h c g t p M := cR_V hR
  have hp0 : kin S p0 = some (11, n) := hO.2.2.2.2.1
  have c1 := gc_median (N := N) (by omega) hR
  have m1 := gm_median (N := N) (by omega) hd hs
  refine ⟨S, th v m 0, ?_, LI_q (x := 0) hw (cR_q hR (by omega)) hd0 hO mqt_th, gw_0⟩
  unfold K_lw_law_1921
  rw [grd_true _ hR.1.1.1, c1]
  simp only [Option.bind_some]
  rw [grd_true _ hd.1.1, m1]
  simp only [Option.bind_some, if_true]
theorem st_spread (hF : flO) (hN : 7000000 ≤ N) (hq : q ≤ 1000) (hk : k + 5 < n ∧ n ≤ 100000) (hI : LI S v a m oa p0 n ln W q) : ST N i23 S p0 a m oa k n ln W q (K_lw_law_1977 N i23 S v p0 a m oa (J (k : Int))) := by
  obtain ⟨s, hw, hR0, hd0, hO⟩ := hI
  obtain ⟨⟨h, c, g, t, p, M⟩, sv, ps, re, ca, ch⟩ := s
  have hR : cR S v a (h, c, g, t, p, M) sv ps re ca ch q := hR0
  have hd : dR S v m (h, c, g, t, p, M) sv ps re ca ch := hd0
  have hs : stV h c g t p M := cR_V hR
  have hp0 : kin S p0 = some (11, n) := hO.2.2.2.2.1
  have c1 := gc_spread (N := N) (by omega) hR
  have m1 := gm_spread (N := N) (by omega) hd hs
  refine ⟨S, th v m 0, ?_, LI_q (x := 0) hw (cR_q hR (by omega)) hd0 hO mqt_th, gw_0⟩
  unfold K_lw_law_1977
  rw [grd_true _ hR.1.1.1, c1]
  simp only [Option.bind_some]
  rw [grd_true _ hd.1.1, m1]
  simp only [Option.bind_some, if_true]
theorem st_sharpest (hF : flO) (hN : 7000000 ≤ N) (hq : q ≤ 1000) (hk : k + 5 < n ∧ n ≤ 100000) (hI : LI S v a m oa p0 n ln W q) : ST N i23 S p0 a m oa k n ln W q (K_lw_law_1990 N i23 S v p0 a m oa (J (k : Int))) := by
  obtain ⟨s, hw, hR0, hd0, hO⟩ := hI
  obtain ⟨⟨h, c, g, t, p, M⟩, sv, ps, re, ca, ch⟩ := s
  have hR : cR S v a (h, c, g, t, p, M) sv ps re ca ch q := hR0
  have hd : dR S v m (h, c, g, t, p, M) sv ps re ca ch := hd0
  have hs : stV h c g t p M := cR_V hR
  have hp0 : kin S p0 = some (11, n) := hO.2.2.2.2.1
  have c1 := gc_sharpest (N := N) (by omega) hR
  have m1 := gm_sharpest (N := N) (by omega) hd hs
  refine ⟨S, th v m 0, ?_, LI_q (x := 0) hw (cR_q hR (by omega)) hd0 hO mqt_th, gw_0⟩
  unfold K_lw_law_1990
  rw [grd_true _ hR.1.1.1, c1]
  simp only [Option.bind_some]
  rw [grd_true _ hd.1.1, m1]
  simp only [Option.bind_some, if_true]
theorem st_run (hF : flO) (hN : 7000000 ≤ N) (hq : q ≤ 1000) (hk : k + 5 < n ∧ n ≤ 100000) (hI : LI S v a m oa p0 n ln W q) : ST N i23 S p0 a m oa k n ln W q (K_lw_law_2003 N i23 S v p0 a m oa (J (k : Int))) := by
  obtain ⟨s, hw, hR0, hd0, hO⟩ := hI
  obtain ⟨⟨h, c, g, t, p, M⟩, sv, ps, re, ca, ch⟩ := s
  have hR : cR S v a (h, c, g, t, p, M) sv ps re ca ch q := hR0
  have hd : dR S v m (h, c, g, t, p, M) sv ps re ca ch := hd0
  have hs : stV h c g t p M := cR_V hR
  have hp0 : kin S p0 = some (11, n) := hO.2.2.2.2.1
  obtain ⟨x1, e1, b1⟩ := sc_ar (gi v p0 (Int32.toNatClampNeg (J (k : Int) + J 1)))
  have v1 : vp_in (J (k : Int) + J 1) (alen S p0) := sc_in (j := 1) hp0 hk (by decide)
  obtain ⟨o, ho⟩ : ∃ o : Nat ⊕ (Int × full), o = (runO ((h, c, g, t, p, M), sv, ps, re, ca, ch) x1) := ⟨_, rfl⟩
  have hU : UC (F_gc_run N a (J x1) S v) f10 o a (q + 1) S v := by rw [ho]; exact gc_run (by omega) hw hR hq b1
  have hC : ∀ c, o = .inl c → c = 1 ∨ c = 2 := by
    intro c hc
    rw [ho] at hc
    unfold runO at hc
    (repeat' split at hc) <;> cases hc <;> decide
  have hB : thB o := fun c hc => by have := hC c hc; omega
  obtain ⟨S', v', l1, l2⟩ := lw_UC (thr := (fun k0 => if k0 = 0 then lt (skip S 6) fun S9 => some (((J 1), S9, v)) else if k0 = 2 then lt (skip S 6) fun S11 => some (((J 2), S11, v)) else none)) hw hR0 hd0 hO hU (fun c hc => by rcases hC c hc with rfl | rfl <;> rfl) hB
  have hd1 : dR S' v' m (h, c, g, t, p, M) sv ps re ca ch := l2.2.2.1
  have f1 : F_lw_run N a (J x1) oa S v = some (J (uThr o), S', v') := by
    unfold F_lw_run
    rw [grd_true _ hR.1.1.1]
    exact l1
  obtain ⟨u, t1, t2⟩ := law_tail (N := N) (i23 := i23) (p4 := J (k : Int)) (mF := F_gm_run N m (J x1) S' v') l2 hB (by rw [ho]; exact gm_run (by omega) hd1 hs (cR_ps hR) b1)
  refine ⟨S', u, ?_, t2, l2.2.2.2.2.1⟩
  have hp' : kin S' p0 = some (11, n) := l2.2.2.2.1.2.2.2.2.1
  have w1 : vp_in (J (k : Int) + J 1) (alen S' p0) := sc_in (j := 1) hp' hk (by decide)
  have y1 : gi v' p0 (Int32.toNatClampNeg (J (k : Int) + J 1)) = J x1 := by rw [gi_rw, l2.2.2.2.2.2.1]; exact e1
  unfold K_lw_law_2003
  rw [grd_true _ (sc_P hp0), grd_true _ v1, e1, f1]
  simp only [Option.bind_some]
  rw [grd_true _ (sc_P hp'), grd_true _ w1, y1]
  exact t1
theorem st_runTo (hF : flO) (hN : 7000000 ≤ N) (hq : q ≤ 1000) (hk : k + 5 < n ∧ n ≤ 100000) (hI : LI S v a m oa p0 n ln W q) : ST N i23 S p0 a m oa k n ln W q (K_lw_law_2059 N i23 S v p0 a m oa (J (k : Int))) := by
  obtain ⟨s, hw, hR0, hd0, hO⟩ := hI
  obtain ⟨⟨h, c, g, t, p, M⟩, sv, ps, re, ca, ch⟩ := s
  have hR : cR S v a (h, c, g, t, p, M) sv ps re ca ch q := hR0
  have hd : dR S v m (h, c, g, t, p, M) sv ps re ca ch := hd0
  have hs : stV h c g t p M := cR_V hR
  have hp0 : kin S p0 = some (11, n) := hO.2.2.2.2.1
  obtain ⟨x1, e1, b1⟩ := sc_ar (gi v p0 (Int32.toNatClampNeg (J (k : Int) + J 1)))
  have v1 : vp_in (J (k : Int) + J 1) (alen S p0) := sc_in (j := 1) hp0 hk (by decide)
  obtain ⟨o, ho⟩ : ∃ o : Nat ⊕ (Int × full), o = (rtoO ((h, c, g, t, p, M), sv, ps, re, ca, ch) x1) := ⟨_, rfl⟩
  have hU : UC (F_gc_runTo N a (J x1) S v) f10 o a (q + 1) S v := by rw [ho]; exact gc_runTo (by omega) hw hR hq b1
  have hC : ∀ c, o = .inl c → c = 1 := by
    intro c hc
    rw [ho] at hc
    unfold rtoO at hc
    (repeat' split at hc) <;> cases hc <;> decide
  have hB : thB o := fun c hc => by have := hC c hc; omega
  obtain ⟨S', v', l1, l2⟩ := lw_UC (thr := (fun k0 => if k0 = 0 then lt (skip S 6) fun S9 => some (((J 1), S9, v)) else none)) hw hR0 hd0 hO hU (fun c hc => by rcases hC c hc with rfl <;> rfl) hB
  have hd1 : dR S' v' m (h, c, g, t, p, M) sv ps re ca ch := l2.2.2.1
  have f1 : F_lw_runTo N a (J x1) oa S v = some (J (uThr o), S', v') := by
    unfold F_lw_runTo
    rw [grd_true _ hR.1.1.1]
    exact l1
  obtain ⟨u, t1, t2⟩ := law_tail (N := N) (i23 := i23) (p4 := J (k : Int)) (mF := F_gm_runTo N m (J x1) S' v') l2 hB (by rw [ho]; exact gm_runTo (by omega) hd1 hs (cR_ps hR) b1)
  refine ⟨S', u, ?_, t2, l2.2.2.2.2.1⟩
  have hp' : kin S' p0 = some (11, n) := l2.2.2.2.1.2.2.2.2.1
  have w1 : vp_in (J (k : Int) + J 1) (alen S' p0) := sc_in (j := 1) hp' hk (by decide)
  have y1 : gi v' p0 (Int32.toNatClampNeg (J (k : Int) + J 1)) = J x1 := by rw [gi_rw, l2.2.2.2.2.2.1]; exact e1
  unfold K_lw_law_2059
  rw [grd_true _ (sc_P hp0), grd_true _ v1, e1, f1]
  simp only [Option.bind_some]
  rw [grd_true _ (sc_P hp'), grd_true _ w1, y1]
  exact t1
theorem st_waitOutput (hF : flO) (hN : 7000000 ≤ N) (hq : q ≤ 1000) (hk : k + 5 < n ∧ n ≤ 100000) (hI : LI S v a m oa p0 n ln W q) : ST N i23 S p0 a m oa k n ln W q (K_lw_law_2115 N i23 S v p0 a m oa (J (k : Int))) := by
  obtain ⟨s, hw, hR0, hd0, hO⟩ := hI
  obtain ⟨⟨h, c, g, t, p, M⟩, sv, ps, re, ca, ch⟩ := s
  have hR : cR S v a (h, c, g, t, p, M) sv ps re ca ch q := hR0
  have hd : dR S v m (h, c, g, t, p, M) sv ps re ca ch := hd0
  have hs : stV h c g t p M := cR_V hR
  have hp0 : kin S p0 = some (11, n) := hO.2.2.2.2.1
  obtain ⟨S', v', u, c1, m1, l1, r1, kp, t1, t2⟩ := law_D (mF := fun S w => F_gm_waitOutput N m S w) hw hR0 hd0 hO (gc_waitOutput (by omega) hw hR hq) (fun S1 u hd1 => gm_waitOutput (by omega) hd1 hs (cR_ps hR))
  try dsimp only at m1
  refine ⟨S', u, ?_, t1, t2⟩
  unfold K_lw_law_2115
  rw [grd_true _ hR.1.1.1, c1]
  simp only [Option.bind_some]
  rw [grd_true _ l1.1, m1]
  simp only [Option.bind_some, if_true]
theorem sx_gate (hF : flO) (hN : 7000000 ≤ N) (hq : q ≤ 1000) (hk : k + 5 < n ∧ n ≤ 100000) (hI : LI S v a m oa p0 n ln W q) : ST N i23 S p0 a m oa k n ln W q (K_lw_law_2128 N i23 S v p0 a m oa (J (k : Int))) := by
  obtain ⟨s, hw, hR0, hd0, hO⟩ := hI
  obtain ⟨⟨h, c, g, t, p, M⟩, sv, ps, re, ca, ch⟩ := s
  have hR : cR S v a (h, c, g, t, p, M) sv ps re ca ch q := hR0
  have hd : dR S v m (h, c, g, t, p, M) sv ps re ca ch := hd0
  have hs : stV h c g t p M := cR_V hR
  have hp0 : kin S p0 = some (11, n) := hO.2.2.2.2.1
  obtain ⟨S', v', u, c1, m1, l1, r1, kp, t1, t2⟩ := law_D (mF := fun S w => F_gm_gate N m S w) hw hR0 hd0 hO (gc_gate (by omega) hw hR hq) (fun S1 u hd1 => gm_gate (by omega) hd1 hs (cR_ps hR))
  try dsimp only at m1
  refine ⟨S', u, ?_, t1, t2⟩
  unfold K_lw_law_2128
  rw [grd_true _ hR.1.1.1, c1]
  simp only [Option.bind_some]
  rw [grd_true _ l1.1, m1]
  simp only [Option.bind_some, if_true]
theorem sx_period (hF : flO) (hN : 7000000 ≤ N) (hq : q ≤ 1000) (hk : k + 5 < n ∧ n ≤ 100000) (hI : LI S v a m oa p0 n ln W q) : ST N i23 S p0 a m oa k n ln W q (K_lw_law_2141 N i23 S v p0 a m oa (J (k : Int))) := by
  obtain ⟨s, hw, hR0, hd0, hO⟩ := hI
  obtain ⟨⟨h, c, g, t, p, M⟩, sv, ps, re, ca, ch⟩ := s
  have hR : cR S v a (h, c, g, t, p, M) sv ps re ca ch q := hR0
  have hd : dR S v m (h, c, g, t, p, M) sv ps re ca ch := hd0
  have hs : stV h c g t p M := cR_V hR
  have hp0 : kin S p0 = some (11, n) := hO.2.2.2.2.1
  obtain ⟨S', v', u, c1, m1, l1, r1, kp, t1, t2⟩ := law_D (mF := fun S w => F_gm_period N m S w) hw hR0 hd0 hO (gc_period (by omega) hw hR hq) (fun S1 u hd1 => gm_period (by omega) hd1 hs (cR_ps hR))
  try dsimp only at m1
  refine ⟨S', u, ?_, t1, t2⟩
  unfold K_lw_law_2141
  rw [grd_true _ hR.1.1.1, c1]
  simp only [Option.bind_some]
  rw [grd_true _ l1.1, m1]
  simp only [Option.bind_some, if_true]
theorem st_choose (hF : flO) (hN : 7000000 ≤ N) (hq : q ≤ 1000) (hk : k + 5 < n ∧ n ≤ 100000) (hI : LI S v a m oa p0 n ln W q) : ST N i23 S p0 a m oa k n ln W q (K_lw_law_2154 N i23 S v p0 a m oa (J (k : Int))) := by
  obtain ⟨s, hw, hR0, hd0, hO⟩ := hI
  obtain ⟨⟨h, c, g, t, p, M⟩, sv, ps, re, ca, ch⟩ := s
  have hR : cR S v a (h, c, g, t, p, M) sv ps re ca ch q := hR0
  have hd : dR S v m (h, c, g, t, p, M) sv ps re ca ch := hd0
  have hs : stV h c g t p M := cR_V hR
  have hp0 : kin S p0 = some (11, n) := hO.2.2.2.2.1
  obtain ⟨S', v', u, c1, m1, l1, r1, kp, t1, t2⟩ := law_D (mF := fun S w => F_gm_choose N m S w) hw hR0 hd0 hO (gc_choose (by omega) hw hR hq) (fun S1 u hd1 => gm_choose (by omega) hd1 hs (cR_ps hR))
  try dsimp only at m1
  refine ⟨S', u, ?_, t1, t2⟩
  unfold K_lw_law_2154
  rw [grd_true _ hR.1.1.1, c1]
  simp only [Option.bind_some]
  rw [grd_true _ l1.1, m1]
  simp only [Option.bind_some, if_true]
theorem st_calibrate (hF : flO) (hN : 7000000 ≤ N) (hq : q ≤ 1000) (hk : k + 5 < n ∧ n ≤ 100000) (hI : LI S v a m oa p0 n ln W q) : ST N i23 S p0 a m oa k n ln W q (K_lw_law_2167 N i23 S v p0 a m oa (J (k : Int))) := by
  obtain ⟨s, hw, hR0, hd0, hO⟩ := hI
  obtain ⟨⟨h, c, g, t, p, M⟩, sv, ps, re, ca, ch⟩ := s
  have hR : cR S v a (h, c, g, t, p, M) sv ps re ca ch q := hR0
  have hd : dR S v m (h, c, g, t, p, M) sv ps re ca ch := hd0
  have hs : stV h c g t p M := cR_V hR
  have hp0 : kin S p0 = some (11, n) := hO.2.2.2.2.1
  obtain ⟨x1, e1, b1⟩ := sc_ar (gi v p0 (Int32.toNatClampNeg (J (k : Int) + J 1)))
  have v1 : vp_in (J (k : Int) + J 1) (alen S p0) := sc_in (j := 1) hp0 hk (by decide)
  obtain ⟨o, ho⟩ : ∃ o : Nat ⊕ (Int × full), o = (caO ((h, c, g, t, p, M), sv, ps, re, ca, ch) x1) := ⟨_, rfl⟩
  have hU : UC (F_gc_calibrate N a (J x1) S v) f10 o a (q + 1) S v := by rw [ho]; exact gc_calibrate (by omega) hw hR hq b1
  have hC : ∀ c, o = .inl c → c = 1 := by
    intro c hc
    rw [ho] at hc
    unfold caO at hc
    (repeat' split at hc) <;> cases hc <;> decide
  have hB : thB o := fun c hc => by have := hC c hc; omega
  obtain ⟨S', v', l1, l2⟩ := lw_UC (thr := (fun k0 => if k0 = 0 then lt (skip S 6) fun S9 => some (((J 1), S9, v)) else none)) hw hR0 hd0 hO hU (fun c hc => by rcases hC c hc with rfl <;> rfl) hB
  have hd1 : dR S' v' m (h, c, g, t, p, M) sv ps re ca ch := l2.2.2.1
  have f1 : F_lw_calibrate N a (J x1) oa S v = some (J (uThr o), S', v') := by
    unfold F_lw_calibrate
    rw [grd_true _ hR.1.1.1]
    exact l1
  obtain ⟨u, t1, t2⟩ := law_tail (N := N) (i23 := i23) (p4 := J (k : Int)) (mF := F_gm_calibrate N m (J x1) S' v') l2 hB (by rw [ho]; exact gm_calibrate (by omega) hd1 hs (cR_ps hR) b1)
  refine ⟨S', u, ?_, t2, l2.2.2.2.2.1⟩
  have hp' : kin S' p0 = some (11, n) := l2.2.2.2.1.2.2.2.2.1
  have w1 : vp_in (J (k : Int) + J 1) (alen S' p0) := sc_in (j := 1) hp' hk (by decide)
  have y1 : gi v' p0 (Int32.toNatClampNeg (J (k : Int) + J 1)) = J x1 := by rw [gi_rw, l2.2.2.2.2.2.1]; exact e1
  unfold K_lw_law_2167
  rw [grd_true _ (sc_P hp0), grd_true _ v1, e1, f1]
  simp only [Option.bind_some]
  rw [grd_true _ (sc_P hp'), grd_true _ w1, y1]
  exact t1
theorem st_set (hF : flO) (hN : 7000000 ≤ N) (hq : q ≤ 1000) (hk : k + 5 < n ∧ n ≤ 100000) (hI : LI S v a m oa p0 n ln W q) : ST N i23 S p0 a m oa k n ln W q (K_lw_law_2279 N i23 S v p0 a m oa (J (k : Int))) := by
  obtain ⟨s, hw, hR0, hd0, hO⟩ := hI
  obtain ⟨⟨h, c, g, t, p, M⟩, sv, ps, re, ca, ch⟩ := s
  have hR : cR S v a (h, c, g, t, p, M) sv ps re ca ch q := hR0
  have hd : dR S v m (h, c, g, t, p, M) sv ps re ca ch := hd0
  have hs : stV h c g t p M := cR_V hR
  have hp0 : kin S p0 = some (11, n) := hO.2.2.2.2.1
  obtain ⟨x1, e1, b1⟩ := sc_ar (gi v p0 (Int32.toNatClampNeg (J (k : Int) + J 1)))
  have v1 : vp_in (J (k : Int) + J 1) (alen S p0) := sc_in (j := 1) hp0 hk (by decide)
  obtain ⟨x2, e2, b2⟩ := sc_ar (gi v p0 (Int32.toNatClampNeg (J (k : Int) + J 2)))
  have v2 : vp_in (J (k : Int) + J 2) (alen S p0) := sc_in (j := 2) hp0 hk (by decide)
  obtain ⟨o, ho⟩ : ∃ o : Nat ⊕ (Int × full), o = (setU ((h, c, g, t, p, M), sv, ps, re, ca, ch) x1 x2) := ⟨_, rfl⟩
  have hU : UC (F_gc_set N a (J x1) (J x2) S v) f10 o a (q + 1) S v := by rw [ho]; exact gc_set (by omega) hw hR hq b1 b2
  have hC : ∀ c, o = .inl c → c = 1 := by
    intro c hc
    rw [ho] at hc
    unfold setU at hc
    (repeat' split at hc) <;> cases hc <;> decide
  have hB : thB o := fun c hc => by have := hC c hc; omega
  obtain ⟨S', v', l1, l2⟩ := lw_UC (thr := (fun k0 => if k0 = 0 then lt (skip S 6) fun S9 => some (((J 1), S9, v)) else none)) hw hR0 hd0 hO hU (fun c hc => by rcases hC c hc with rfl <;> rfl) hB
  have hd1 : dR S' v' m (h, c, g, t, p, M) sv ps re ca ch := l2.2.2.1
  have f1 : F_lw_set N a (J x1) (J x2) oa S v = some (J (uThr o), S', v') := by
    unfold F_lw_set
    rw [grd_true _ hR.1.1.1]
    exact l1
  obtain ⟨u, t1, t2⟩ := law_tail (N := N) (i23 := i23) (p4 := J (k : Int)) (mF := F_gm_set N m (J x1) (J x2) S' v') l2 hB (by rw [ho]; exact gm_set (by omega) hd1 hs (cR_ps hR) b1 b2)
  refine ⟨S', u, ?_, t2, l2.2.2.2.2.1⟩
  have hp' : kin S' p0 = some (11, n) := l2.2.2.2.1.2.2.2.2.1
  have w1 : vp_in (J (k : Int) + J 1) (alen S' p0) := sc_in (j := 1) hp' hk (by decide)
  have y1 : gi v' p0 (Int32.toNatClampNeg (J (k : Int) + J 1)) = J x1 := by rw [gi_rw, l2.2.2.2.2.2.1]; exact e1
  have w2 : vp_in (J (k : Int) + J 2) (alen S' p0) := sc_in (j := 2) hp' hk (by decide)
  have y2 : gi v' p0 (Int32.toNatClampNeg (J (k : Int) + J 2)) = J x2 := by rw [gi_rw, l2.2.2.2.2.2.1]; exact e2
  unfold K_lw_law_2279
  rw [grd_true _ (sc_P hp0), grd_true _ v1, grd_true _ v2, e1, e2, f1]
  simp only [Option.bind_some]
  rw [grd_true _ (sc_P hp'), grd_true _ w1, grd_true _ w2, y1, y2]
  exact t1
theorem st_addSegment (hF : flO) (hN : 7000000 ≤ N) (hq : q ≤ 1000) (hk : k + 5 < n ∧ n ≤ 100000) (hI : LI S v a m oa p0 n ln W q) : ST N i23 S p0 a m oa k n ln W q (K_lw_law_2347 N i23 S v p0 a m oa (J (k : Int))) := by
  obtain ⟨s, hw, hR0, hd0, hO⟩ := hI
  obtain ⟨⟨h, c, g, t, p, M⟩, sv, ps, re, ca, ch⟩ := s
  have hR : cR S v a (h, c, g, t, p, M) sv ps re ca ch q := hR0
  have hd : dR S v m (h, c, g, t, p, M) sv ps re ca ch := hd0
  have hs : stV h c g t p M := cR_V hR
  have hp0 : kin S p0 = some (11, n) := hO.2.2.2.2.1
  obtain ⟨x1, e1, b1⟩ := sc_ar (gi v p0 (Int32.toNatClampNeg (J (k : Int) + J 1)))
  have v1 : vp_in (J (k : Int) + J 1) (alen S p0) := sc_in (j := 1) hp0 hk (by decide)
  obtain ⟨x2, e2, b2⟩ := sc_ar (gi v p0 (Int32.toNatClampNeg (J (k : Int) + J 2)))
  have v2 : vp_in (J (k : Int) + J 2) (alen S p0) := sc_in (j := 2) hp0 hk (by decide)
  obtain ⟨o, ho⟩ : ∃ o : Nat ⊕ (Int × full), o = (asO ((h, c, g, t, p, M), sv, ps, re, ca, ch) x1 x2) := ⟨_, rfl⟩
  have hU : UC (F_gc_addSegment N a (J x1) (J x2) S v) f10 o a (q + 1) S v := by rw [ho]; exact gc_addSegment (by omega) hw hR hq b1 b2
  have hC : ∀ c, o = .inl c → c = 1 ∨ c = 2 := by
    intro c hc
    rw [ho] at hc
    unfold asO at hc
    (repeat' split at hc) <;> cases hc <;> decide
  have hB : thB o := fun c hc => by have := hC c hc; omega
  obtain ⟨S', v', l1, l2⟩ := lw_UC (thr := (fun k0 => if k0 = 0 then lt (skip S 6) fun S9 => some (((J 1), S9, v)) else if k0 = 2 then lt (skip S 6) fun S11 => some (((J 2), S11, v)) else none)) hw hR0 hd0 hO hU (fun c hc => by rcases hC c hc with rfl | rfl <;> rfl) hB
  have hd1 : dR S' v' m (h, c, g, t, p, M) sv ps re ca ch := l2.2.2.1
  have f1 : F_lw_addSegment N a (J x1) (J x2) oa S v = some (J (uThr o), S', v') := by
    unfold F_lw_addSegment
    rw [grd_true _ hR.1.1.1]
    exact l1
  obtain ⟨u, t1, t2⟩ := law_tail (N := N) (i23 := i23) (p4 := J (k : Int)) (mF := F_gm_addSegment N m (J x1) (J x2) S' v') l2 hB (by rw [ho]; exact gm_addSegment (by omega) hd1 hs (cR_ps hR) b1 b2)
  refine ⟨S', u, ?_, t2, l2.2.2.2.2.1⟩
  have hp' : kin S' p0 = some (11, n) := l2.2.2.2.1.2.2.2.2.1
  have w1 : vp_in (J (k : Int) + J 1) (alen S' p0) := sc_in (j := 1) hp' hk (by decide)
  have y1 : gi v' p0 (Int32.toNatClampNeg (J (k : Int) + J 1)) = J x1 := by rw [gi_rw, l2.2.2.2.2.2.1]; exact e1
  have w2 : vp_in (J (k : Int) + J 2) (alen S' p0) := sc_in (j := 2) hp' hk (by decide)
  have y2 : gi v' p0 (Int32.toNatClampNeg (J (k : Int) + J 2)) = J x2 := by rw [gi_rw, l2.2.2.2.2.2.1]; exact e2
  unfold K_lw_law_2347
  rw [grd_true _ (sc_P hp0), grd_true _ v1, grd_true _ v2, e1, e2, f1]
  simp only [Option.bind_some]
  rw [grd_true _ (sc_P hp'), grd_true _ w1, grd_true _ w2, y1, y2]
  exact t1
theorem st_dropSegment (hF : flO) (hN : 7000000 ≤ N) (hq : q ≤ 1000) (hk : k + 5 < n ∧ n ≤ 100000) (hI : LI S v a m oa p0 n ln W q) : ST N i23 S p0 a m oa k n ln W q (K_lw_law_2415 N i23 S v p0 a m oa (J (k : Int))) := by
  obtain ⟨s, hw, hR0, hd0, hO⟩ := hI
  obtain ⟨⟨h, c, g, t, p, M⟩, sv, ps, re, ca, ch⟩ := s
  have hR : cR S v a (h, c, g, t, p, M) sv ps re ca ch q := hR0
  have hd : dR S v m (h, c, g, t, p, M) sv ps re ca ch := hd0
  have hs : stV h c g t p M := cR_V hR
  have hp0 : kin S p0 = some (11, n) := hO.2.2.2.2.1
  obtain ⟨o, ho⟩ : ∃ o : Nat ⊕ (Int × full), o = (dsO ((h, c, g, t, p, M), sv, ps, re, ca, ch)) := ⟨_, rfl⟩
  have hU : UC (F_gc_dropSegment N a S v) f12 o a (q + 1) S v := by rw [ho]; exact gc_dropSegment (by omega) hw hR hq
  have hC : ∀ c, o = .inl c → c = 1 := by
    intro c hc
    rw [ho] at hc
    unfold dsO at hc
    (repeat' split at hc) <;> cases hc <;> decide
  have hB : thB o := fun c hc => by have := hC c hc; omega
  obtain ⟨S', v', l1, l2⟩ := lw_UC (thr := (fun k0 => if k0 = 2 then lt (skip S 6) fun S9 => some (((J 1), S9, v)) else none)) hw hR0 hd0 hO hU (fun c hc => by rcases hC c hc with rfl <;> rfl) hB
  have hd1 : dR S' v' m (h, c, g, t, p, M) sv ps re ca ch := l2.2.2.1
  have f1 : F_lw_dropSegment N a oa S v = some (J (uThr o), S', v') := by
    unfold F_lw_dropSegment
    rw [grd_true _ hR.1.1.1]
    exact l1
  obtain ⟨u, t1, t2⟩ := law_tail (N := N) (i23 := i23) (p4 := J (k : Int)) (mF := F_gm_dropSegment N m S' v') l2 hB (by rw [ho]; exact gm_dropSegment (by omega) hd1 hs (cR_ps hR))
  refine ⟨S', u, ?_, t2, l2.2.2.2.2.1⟩
  have hp' : kin S' p0 = some (11, n) := l2.2.2.2.1.2.2.2.2.1
  unfold K_lw_law_2415
  rw [f1]
  simp only [Option.bind_some]
  exact t1
theorem st_drop (hF : flO) (hN : 7000000 ≤ N) (hq : q ≤ 1000) (hk : k + 5 < n ∧ n ≤ 100000) (hI : LI S v a m oa p0 n ln W q) : ST N i23 S p0 a m oa k n ln W q (K_lw_law_2459 N i23 S v p0 a m oa (J (k : Int))) := by
  obtain ⟨s, hw, hR0, hd0, hO⟩ := hI
  obtain ⟨⟨h, c, g, t, p, M⟩, sv, ps, re, ca, ch⟩ := s
  have hR : cR S v a (h, c, g, t, p, M) sv ps re ca ch q := hR0
  have hd : dR S v m (h, c, g, t, p, M) sv ps re ca ch := hd0
  have hs : stV h c g t p M := cR_V hR
  have hp0 : kin S p0 = some (11, n) := hO.2.2.2.2.1
  obtain ⟨x1, e1, b1⟩ := sc_ar (gi v p0 (Int32.toNatClampNeg (J (k : Int) + J 1)))
  have v1 : vp_in (J (k : Int) + J 1) (alen S p0) := sc_in (j := 1) hp0 hk (by decide)
  obtain ⟨o, ho⟩ : ∃ o : Nat ⊕ (Int × full), o = (dropO ((h, c, g, t, p, M), sv, ps, re, ca, ch) x1) := ⟨_, rfl⟩
  have hU : UC (F_gc_drop N a (J x1) S v) (fun c => c) o a (q + 1) S v := by rw [ho]; exact gc_drop (by omega) hw hR hq b1
  have hC : ∀ c, o = .inl c → c = 1 := by
    intro c hc
    rw [ho] at hc
    unfold dropO at hc
    (repeat' split at hc) <;> cases hc <;> decide
  have hB : thB o := fun c hc => by have := hC c hc; omega
  obtain ⟨S', v', l1, l2⟩ := lw_UC (thr := (fun k0 => if k0 = 1 then lt (skip S 6) fun S9 => some (((J 1), S9, v)) else none)) hw hR0 hd0 hO hU (fun c hc => by rcases hC c hc with rfl <;> rfl) hB
  have hd1 : dR S' v' m (h, c, g, t, p, M) sv ps re ca ch := l2.2.2.1
  have f1 : F_lw_drop N a (J x1) oa S v = some (J (uThr o), S', v') := by
    unfold F_lw_drop
    rw [grd_true _ hR.1.1.1]
    exact l1
  obtain ⟨u, t1, t2⟩ := law_tail (N := N) (i23 := i23) (p4 := J (k : Int)) (mF := F_gm_drop N m (J x1) S' v') l2 hB (by rw [ho]; exact gm_drop (by omega) hd1 hs (cR_ps hR) b1)
  refine ⟨S', u, ?_, t2, l2.2.2.2.2.1⟩
  have hp' : kin S' p0 = some (11, n) := l2.2.2.2.1.2.2.2.2.1
  have w1 : vp_in (J (k : Int) + J 1) (alen S' p0) := sc_in (j := 1) hp' hk (by decide)
  have y1 : gi v' p0 (Int32.toNatClampNeg (J (k : Int) + J 1)) = J x1 := by rw [gi_rw, l2.2.2.2.2.2.1]; exact e1
  unfold K_lw_law_2459
  rw [grd_true _ (sc_P hp0), grd_true _ v1, e1, f1]
  simp only [Option.bind_some]
  rw [grd_true _ (sc_P hp'), grd_true _ w1, y1]
  exact t1
theorem st_undo (hF : flO) (hN : 7000000 ≤ N) (hq : q ≤ 1000) (hk : k + 5 < n ∧ n ≤ 100000) (hI : LI S v a m oa p0 n ln W q) : ST N i23 S p0 a m oa k n ln W q (K_lw_law_2515 N i23 S v p0 a m oa (J (k : Int))) := by
  obtain ⟨s, hw, hR0, hd0, hO⟩ := hI
  obtain ⟨⟨h, c, g, t, p, M⟩, sv, ps, re, ca, ch⟩ := s
  have hR : cR S v a (h, c, g, t, p, M) sv ps re ca ch q := hR0
  have hd : dR S v m (h, c, g, t, p, M) sv ps re ca ch := hd0
  have hs : stV h c g t p M := cR_V hR
  have hp0 : kin S p0 = some (11, n) := hO.2.2.2.2.1
  obtain ⟨o, ho⟩ : ∃ o : Nat ⊕ (Int × full), o = (undO ((h, c, g, t, p, M), sv, ps, re, ca, ch)) := ⟨_, rfl⟩
  have hU : UC (F_gc_undo N a S v) f13 o a (q + 1) S v := by rw [ho]; exact gc_undo (by omega) hw hR hq
  have hC : ∀ c, o = .inl c → c = 1 := by
    intro c hc
    rw [ho] at hc
    unfold undO at hc
    (repeat' split at hc) <;> cases hc <;> decide
  have hB : thB o := fun c hc => by have := hC c hc; omega
  obtain ⟨S', v', l1, l2⟩ := lw_UC (thr := (fun k0 => if k0 = 3 then lt (skip S 6) fun S9 => some (((J 1), S9, v)) else none)) hw hR0 hd0 hO hU (fun c hc => by rcases hC c hc with rfl <;> rfl) hB
  have hd1 : dR S' v' m (h, c, g, t, p, M) sv ps re ca ch := l2.2.2.1
  have f1 : F_lw_undo N a oa S v = some (J (uThr o), S', v') := by
    unfold F_lw_undo
    rw [grd_true _ hR.1.1.1]
    exact l1
  obtain ⟨u, t1, t2⟩ := law_tail (N := N) (i23 := i23) (p4 := J (k : Int)) (mF := F_gm_undo N m S' v') l2 hB (by rw [ho]; exact gm_undo (by omega) hd1 hs (cR_ps hR))
  refine ⟨S', u, ?_, t2, l2.2.2.2.2.1⟩
  have hp' : kin S' p0 = some (11, n) := l2.2.2.2.1.2.2.2.2.1
  unfold K_lw_law_2515
  rw [f1]
  simp only [Option.bind_some]
  exact t1
theorem st_saveState (hF : flO) (hN : 7000000 ≤ N) (hq : q ≤ 1000) (hk : k + 5 < n ∧ n ≤ 100000) (hI : LI S v a m oa p0 n ln W q) : ST N i23 S p0 a m oa k n ln W q (K_lw_law_2666 N i23 S v p0 a m oa (J (k : Int))) := by
  obtain ⟨s, hw, hR0, hd0, hO⟩ := hI
  obtain ⟨⟨h, c, g, t, p, M⟩, sv, ps, re, ca, ch⟩ := s
  have hR : cR S v a (h, c, g, t, p, M) sv ps re ca ch q := hR0
  have hd : dR S v m (h, c, g, t, p, M) sv ps re ca ch := hd0
  have hs : stV h c g t p M := cR_V hR
  have hp0 : kin S p0 = some (11, n) := hO.2.2.2.2.1
  obtain ⟨S', v', u, c1, m1, l1, r1, kp, t1, t2⟩ := law_D (mF := fun S w => F_gm_saveState N m S w) hw hR0 hd0 hO (gc_saveState (N := N) (by omega) hw hR) (fun S1 u hd1 => gm_saveState (N := N) (by omega) hd1 hs)
  try dsimp only at m1
  refine ⟨S', u, ?_, t1, t2⟩
  unfold K_lw_law_2666
  rw [grd_true _ hR.1.1.1, c1]
  simp only [Option.bind_some]
  rw [grd_true _ l1.1, m1]
  simp only [Option.bind_some, if_true]
theorem st_restoreState (hF : flO) (hN : 7000000 ≤ N) (hq : q ≤ 1000) (hk : k + 5 < n ∧ n ≤ 100000) (hI : LI S v a m oa p0 n ln W q) : ST N i23 S p0 a m oa k n ln W q (K_lw_law_2679 N i23 S v p0 a m oa (J (k : Int))) := by
  obtain ⟨s, hw, hR0, hd0, hO⟩ := hI
  obtain ⟨⟨h, c, g, t, p, M⟩, sv, ps, re, ca, ch⟩ := s
  have hR : cR S v a (h, c, g, t, p, M) sv ps re ca ch q := hR0
  have hd : dR S v m (h, c, g, t, p, M) sv ps re ca ch := hd0
  have hs : stV h c g t p M := cR_V hR
  have hp0 : kin S p0 = some (11, n) := hO.2.2.2.2.1
  obtain ⟨o, ho⟩ : ∃ o : Nat ⊕ (Int × full), o = (resO ((h, c, g, t, p, M), sv, ps, re, ca, ch)) := ⟨_, rfl⟩
  have hU : UC (F_gc_restoreState N a S v) f13 o a (q + 1) S v := by rw [ho]; exact gc_restoreState (by omega) hw hR
  have hC : ∀ c, o = .inl c → c = 1 := by
    intro c hc
    rw [ho] at hc
    unfold resO at hc
    (repeat' split at hc) <;> cases hc <;> decide
  have hB : thB o := fun c hc => by have := hC c hc; omega
  obtain ⟨S', v', l1, l2⟩ := lw_UC (thr := (fun k0 => if k0 = 3 then lt (skip S 6) fun S9 => some (((J 1), S9, v)) else none)) hw hR0 hd0 hO hU (fun c hc => by rcases hC c hc with rfl <;> rfl) hB
  have hd1 : dR S' v' m (h, c, g, t, p, M) sv ps re ca ch := l2.2.2.1
  have f1 : F_lw_restoreState N a oa S v = some (J (uThr o), S', v') := by
    unfold F_lw_restoreState
    rw [grd_true _ hR.1.1.1]
    exact l1
  obtain ⟨u, t1, t2⟩ := law_tail (N := N) (i23 := i23) (p4 := J (k : Int)) (mF := F_gm_restoreState N m S' v') l2 hB (by rw [ho]; exact gm_restoreState (by omega) hd1 hs (cR_sv hR))
  refine ⟨S', u, ?_, t2, l2.2.2.2.2.1⟩
  have hp' : kin S' p0 = some (11, n) := l2.2.2.2.1.2.2.2.2.1
  unfold K_lw_law_2679
  rw [f1]
  simp only [Option.bind_some]
  exact t1
end LAWCALLS2
