/-! The law: the calls. -/
section LAWCALLS
variable {S S' : shp} {v w v' u : vl} {a b m N n q r len l k oa p0 : Nat} {ln : Nat → Nat} {W : Nat → Nat → Int} {i23 : shp → vl → Nat → Nat → Nat → Nat → Int32 → Option (Int32 × shp × vl)}
theorem cR_sv {now : sta} {sv : Option sta} {ps : List sta} {re ca ch : Int} (hR : cR S v a now sv ps re ca ch q) : ∀ x, sv = some x → sV x := by
  intro x hx
  obtain ⟨-, -, hsv, -⟩ := hR
  rcases hsv with ⟨z1, -⟩ | ⟨s, z1, -, -, z4⟩
  · rw [z1] at hx
    cases hx
  · rw [z1] at hx
    cases hx
    exact z4
theorem st_count (hF : flO) (hN : 7000000 ≤ N) (hq : q ≤ 1000) (hk : k + 5 < n ∧ n ≤ 100000) (hI : LI S v a m oa p0 n ln W q) : ST N i23 S p0 a m oa k n ln W q (K_lw_law_441 N i23 S v p0 a m oa (J (k : Int))) := by
  obtain ⟨s, hw, hR0, hd0, hO⟩ := hI
  obtain ⟨⟨h, c, g, t, p, M⟩, sv, ps, re, ca, ch⟩ := s
  have hR : cR S v a (h, c, g, t, p, M) sv ps re ca ch q := hR0
  have hd : dR S v m (h, c, g, t, p, M) sv ps re ca ch := hd0
  have hs : stV h c g t p M := cR_V hR
  have hp0 : kin S p0 = some (11, n) := hO.2.2.2.2.1
  obtain ⟨x1, e1, b1⟩ := sc_ar (gi v p0 (Int32.toNatClampNeg (J (k : Int) + J 1)))
  have v1 : vp_in (J (k : Int) + J 1) (alen S p0) := sc_in (j := 1) hp0 hk (by decide)
  obtain ⟨o, ho⟩ : ∃ o : Nat ⊕ Int, o = (cntO h c g ps.length x1) := ⟨_, rfl⟩
  have hU : F_gc_count a (J x1) S v = some (rC (fun _ => 0) o) := by rw [ho]; exact gc_count hR b1
  have hC : ∀ c, o = .inl c → c = 1 := by
    intro c hc
    rw [ho] at hc
    unfold cntO at hc
    (repeat' split at hc) <;> cases hc <;> decide
  have hB0 : ∀ c, o = .inl c → 0 < c ∧ c < 100 := fun c hc => by have := hC c hc; omega
  have hB : thB (liO o ((h, c, g, t, p, M), sv, ps, re, ca, ch)) := thB_li hB0
  obtain ⟨S', v', l1, l2⟩ := lw_C (s := ((h, c, g, t, p, M), sv, ps, re, ca, ch)) (thr := (fun k0 => if k0 = 0 then lt (skip S 6) fun S6 => some (((J 1), S6, v)) else none)) hw hR0 hd0 hO hU (fun c hc => by rcases hC c hc with rfl <;> rfl) hB0
  have hd1 : dR S' v' m (h, c, g, t, p, M) sv ps re ca ch := l2.2.2.1
  have f1 : F_lw_count a (J x1) oa S v = some (J (uThr (liO o ((h, c, g, t, p, M), sv, ps, re, ca, ch))), S', v') := by
    unfold F_lw_count
    rw [grd_true _ hR.1.1.1]
    exact l1
  obtain ⟨u, t1, t2⟩ := law_tail (N := N) (i23 := i23) (p4 := J (k : Int)) (mF := F_gm_count m (J x1) S' v') l2 hB (UM_QM l2.2.2.1 hs (by rw [ho]; exact QM_th (gm_count hd1 b1)))
  refine ⟨S', u, ?_, t2, l2.2.2.2.2.1⟩
  have hp' : kin S' p0 = some (11, n) := l2.2.2.2.1.2.2.2.2.1
  have w1 : vp_in (J (k : Int) + J 1) (alen S' p0) := sc_in (j := 1) hp' hk (by decide)
  have y1 : gi v' p0 (Int32.toNatClampNeg (J (k : Int) + J 1)) = J x1 := by rw [gi_rw, l2.2.2.2.2.2.1]; exact e1
  unfold K_lw_law_441
  rw [grd_true _ (sc_P hp0), grd_true _ v1, e1, f1]
  simp only [Option.bind_some]
  rw [grd_true _ (sc_P hp'), grd_true _ w1, y1]
  exact t1
theorem st_setting (hF : flO) (hN : 7000000 ≤ N) (hq : q ≤ 1000) (hk : k + 5 < n ∧ n ≤ 100000) (hI : LI S v a m oa p0 n ln W q) : ST N i23 S p0 a m oa k n ln W q (K_lw_law_497 N i23 S v p0 a m oa (J (k : Int))) := by
  obtain ⟨s, hw, hR0, hd0, hO⟩ := hI
  obtain ⟨⟨h, c, g, t, p, M⟩, sv, ps, re, ca, ch⟩ := s
  have hR : cR S v a (h, c, g, t, p, M) sv ps re ca ch q := hR0
  have hd : dR S v m (h, c, g, t, p, M) sv ps re ca ch := hd0
  have hs : stV h c g t p M := cR_V hR
  have hp0 : kin S p0 = some (11, n) := hO.2.2.2.2.1
  obtain ⟨x1, e1, b1⟩ := sc_ar (gi v p0 (Int32.toNatClampNeg (J (k : Int) + J 1)))
  have v1 : vp_in (J (k : Int) + J 1) (alen S p0) := sc_in (j := 1) hp0 hk (by decide)
  obtain ⟨o, ho⟩ : ∃ o : Nat ⊕ Int, o = (setO h c g x1) := ⟨_, rfl⟩
  have hU : F_gc_setting a (J x1) S v = some (rC (fun _ => 0) o) := by rw [ho]; exact gc_setting hR b1
  have hC : ∀ c, o = .inl c → c = 1 := by
    intro c hc
    rw [ho] at hc
    unfold setO at hc
    (repeat' split at hc) <;> cases hc <;> decide
  have hB0 : ∀ c, o = .inl c → 0 < c ∧ c < 100 := fun c hc => by have := hC c hc; omega
  have hB : thB (liO o ((h, c, g, t, p, M), sv, ps, re, ca, ch)) := thB_li hB0
  obtain ⟨S', v', l1, l2⟩ := lw_C (s := ((h, c, g, t, p, M), sv, ps, re, ca, ch)) (thr := (fun k0 => if k0 = 0 then lt (skip S 6) fun S6 => some (((J 1), S6, v)) else none)) hw hR0 hd0 hO hU (fun c hc => by rcases hC c hc with rfl <;> rfl) hB0
  have hd1 : dR S' v' m (h, c, g, t, p, M) sv ps re ca ch := l2.2.2.1
  have f1 : F_lw_setting a (J x1) oa S v = some (J (uThr (liO o ((h, c, g, t, p, M), sv, ps, re, ca, ch))), S', v') := by
    unfold F_lw_setting
    rw [grd_true _ hR.1.1.1]
    exact l1
  obtain ⟨u, t1, t2⟩ := law_tail (N := N) (i23 := i23) (p4 := J (k : Int)) (mF := F_gm_setting m (J x1) S' v') l2 hB (UM_QM l2.2.2.1 hs (by rw [ho]; exact QM_th (gm_setting hd1 b1)))
  refine ⟨S', u, ?_, t2, l2.2.2.2.2.1⟩
  have hp' : kin S' p0 = some (11, n) := l2.2.2.2.1.2.2.2.2.1
  have w1 : vp_in (J (k : Int) + J 1) (alen S' p0) := sc_in (j := 1) hp' hk (by decide)
  have y1 : gi v' p0 (Int32.toNatClampNeg (J (k : Int) + J 1)) = J x1 := by rw [gi_rw, l2.2.2.2.2.2.1]; exact e1
  unfold K_lw_law_497
  rw [grd_true _ (sc_P hp0), grd_true _ v1, e1, f1]
  simp only [Option.bind_some]
  rw [grd_true _ (sc_P hp'), grd_true _ w1, y1]
  exact t1
theorem st_state (hF : flO) (hN : 7000000 ≤ N) (hq : q ≤ 1000) (hk : k + 5 < n ∧ n ≤ 100000) (hI : LI S v a m oa p0 n ln W q) : ST N i23 S p0 a m oa k n ln W q (K_lw_law_553 N i23 S v p0 a m oa (J (k : Int))) := by
  obtain ⟨s, hw, hR0, hd0, hO⟩ := hI
  obtain ⟨⟨h, c, g, t, p, M⟩, sv, ps, re, ca, ch⟩ := s
  have hR : cR S v a (h, c, g, t, p, M) sv ps re ca ch q := hR0
  have hd : dR S v m (h, c, g, t, p, M) sv ps re ca ch := hd0
  have hs : stV h c g t p M := cR_V hR
  have hp0 : kin S p0 = some (11, n) := hO.2.2.2.2.1
  obtain ⟨x1, e1, b1⟩ := sc_ar (gi v p0 (Int32.toNatClampNeg (J (k : Int) + J 1)))
  have v1 : vp_in (J (k : Int) + J 1) (alen S p0) := sc_in (j := 1) hp0 hk (by decide)
  obtain ⟨o, ho⟩ : ∃ o : Nat ⊕ Int, o = (staO c g t x1) := ⟨_, rfl⟩
  have hU : F_gc_state a (J x1) S v = some (rC (fun _ => 0) o) := by rw [ho]; exact gc_state hR b1
  have hC : ∀ c, o = .inl c → c = 1 := by
    intro c hc
    rw [ho] at hc
    unfold staO at hc
    (repeat' split at hc) <;> cases hc <;> decide
  have hB0 : ∀ c, o = .inl c → 0 < c ∧ c < 100 := fun c hc => by have := hC c hc; omega
  have hB : thB (liO o ((h, c, g, t, p, M), sv, ps, re, ca, ch)) := thB_li hB0
  obtain ⟨S', v', l1, l2⟩ := lw_C (s := ((h, c, g, t, p, M), sv, ps, re, ca, ch)) (thr := (fun k0 => if k0 = 0 then lt (skip S 6) fun S6 => some (((J 1), S6, v)) else none)) hw hR0 hd0 hO hU (fun c hc => by rcases hC c hc with rfl <;> rfl) hB0
  have hd1 : dR S' v' m (h, c, g, t, p, M) sv ps re ca ch := l2.2.2.1
  have f1 : F_lw_state a (J x1) oa S v = some (J (uThr (liO o ((h, c, g, t, p, M), sv, ps, re, ca, ch))), S', v') := by
    unfold F_lw_state
    rw [grd_true _ hR.1.1.1]
    exact l1
  obtain ⟨u, t1, t2⟩ := law_tail (N := N) (i23 := i23) (p4 := J (k : Int)) (mF := F_gm_state m (J x1) S' v') l2 hB (UM_QM l2.2.2.1 hs (by rw [ho]; exact QM_th (gm_state hd1 hs b1)))
  refine ⟨S', u, ?_, t2, l2.2.2.2.2.1⟩
  have hp' : kin S' p0 = some (11, n) := l2.2.2.2.1.2.2.2.2.1
  have w1 : vp_in (J (k : Int) + J 1) (alen S' p0) := sc_in (j := 1) hp' hk (by decide)
  have y1 : gi v' p0 (Int32.toNatClampNeg (J (k : Int) + J 1)) = J x1 := by rw [gi_rw, l2.2.2.2.2.2.1]; exact e1
  unfold K_lw_law_553
  rw [grd_true _ (sc_P hp0), grd_true _ v1, e1, f1]
  simp only [Option.bind_some]
  rw [grd_true _ (sc_P hp'), grd_true _ w1, y1]
  exact t1
theorem st_segment (hF : flO) (hN : 7000000 ≤ N) (hq : q ≤ 1000) (hk : k + 5 < n ∧ n ≤ 100000) (hI : LI S v a m oa p0 n ln W q) : ST N i23 S p0 a m oa k n ln W q (K_lw_law_609 N i23 S v p0 a m oa (J (k : Int))) := by
  obtain ⟨s, hw, hR0, hd0, hO⟩ := hI
  obtain ⟨⟨h, c, g, t, p, M⟩, sv, ps, re, ca, ch⟩ := s
  have hR : cR S v a (h, c, g, t, p, M) sv ps re ca ch q := hR0
  have hd : dR S v m (h, c, g, t, p, M) sv ps re ca ch := hd0
  have hs : stV h c g t p M := cR_V hR
  have hp0 : kin S p0 = some (11, n) := hO.2.2.2.2.1
  obtain ⟨x1, e1, b1⟩ := sc_ar (gi v p0 (Int32.toNatClampNeg (J (k : Int) + J 1)))
  have v1 : vp_in (J (k : Int) + J 1) (alen S p0) := sc_in (j := 1) hp0 hk (by decide)
  obtain ⟨x2, e2, b2⟩ := sc_ar (gi v p0 (Int32.toNatClampNeg (J (k : Int) + J 2)))
  have v2 : vp_in (J (k : Int) + J 2) (alen S p0) := sc_in (j := 2) hp0 hk (by decide)
  obtain ⟨o, ho⟩ : ∃ o : Nat ⊕ Int, o = (segO t p g x1 x2) := ⟨_, rfl⟩
  have hU : F_gc_segment a (J x1) (J x2) S v = some (rC f21 o) := by rw [ho]; exact gc_segment hR b1 b2
  have hC : ∀ c, o = .inl c → c = 1 ∨ c = 2 := by
    intro c hc
    rw [ho] at hc
    unfold segO at hc
    (repeat' split at hc) <;> cases hc <;> decide
  have hB0 : ∀ c, o = .inl c → 0 < c ∧ c < 100 := fun c hc => by have := hC c hc; omega
  have hB : thB (liO o ((h, c, g, t, p, M), sv, ps, re, ca, ch)) := thB_li hB0
  obtain ⟨S', v', l1, l2⟩ := lw_C (s := ((h, c, g, t, p, M), sv, ps, re, ca, ch)) (thr := (fun k0 => if k0 = 1 then lt (skip S 6) fun S6 => some (((J 1), S6, v)) else if k0 = 0 then lt (skip S 6) fun S8 => some (((J 2), S8, v)) else none)) hw hR0 hd0 hO hU (fun c hc => by rcases hC c hc with rfl | rfl <;> rfl) hB0
  have hd1 : dR S' v' m (h, c, g, t, p, M) sv ps re ca ch := l2.2.2.1
  have f1 : F_lw_segment a (J x1) (J x2) oa S v = some (J (uThr (liO o ((h, c, g, t, p, M), sv, ps, re, ca, ch))), S', v') := by
    unfold F_lw_segment
    rw [grd_true _ hR.1.1.1]
    exact l1
  obtain ⟨u, t1, t2⟩ := law_tail (N := N) (i23 := i23) (p4 := J (k : Int)) (mF := F_gm_segment m (J x1) (J x2) S' v') l2 hB (UM_QM l2.2.2.1 hs (by rw [ho]; exact QM_th (gm_segment hd1 hs b1 b2)))
  refine ⟨S', u, ?_, t2, l2.2.2.2.2.1⟩
  have hp' : kin S' p0 = some (11, n) := l2.2.2.2.1.2.2.2.2.1
  have w1 : vp_in (J (k : Int) + J 1) (alen S' p0) := sc_in (j := 1) hp' hk (by decide)
  have y1 : gi v' p0 (Int32.toNatClampNeg (J (k : Int) + J 1)) = J x1 := by rw [gi_rw, l2.2.2.2.2.2.1]; exact e1
  have w2 : vp_in (J (k : Int) + J 2) (alen S' p0) := sc_in (j := 2) hp' hk (by decide)
  have y2 : gi v' p0 (Int32.toNatClampNeg (J (k : Int) + J 2)) = J x2 := by rw [gi_rw, l2.2.2.2.2.2.1]; exact e2
  unfold K_lw_law_609
  rw [grd_true _ (sc_P hp0), grd_true _ v1, grd_true _ v2, e1, e2, f1]
  simp only [Option.bind_some]
  rw [grd_true _ (sc_P hp'), grd_true _ w1, grd_true _ w2, y1, y2]
  exact t1
theorem st_measurement (hF : flO) (hN : 7000000 ≤ N) (hq : q ≤ 1000) (hk : k + 5 < n ∧ n ≤ 100000) (hI : LI S v a m oa p0 n ln W q) : ST N i23 S p0 a m oa k n ln W q (K_lw_law_677 N i23 S v p0 a m oa (J (k : Int))) := by
  obtain ⟨s, hw, hR0, hd0, hO⟩ := hI
  obtain ⟨⟨h, c, g, t, p, M⟩, sv, ps, re, ca, ch⟩ := s
  have hR : cR S v a (h, c, g, t, p, M) sv ps re ca ch q := hR0
  have hd : dR S v m (h, c, g, t, p, M) sv ps re ca ch := hd0
  have hs : stV h c g t p M := cR_V hR
  have hp0 : kin S p0 = some (11, n) := hO.2.2.2.2.1
  obtain ⟨x1, e1, b1⟩ := sc_ar (gi v p0 (Int32.toNatClampNeg (J (k : Int) + J 1)))
  have v1 : vp_in (J (k : Int) + J 1) (alen S p0) := sc_in (j := 1) hp0 hk (by decide)
  obtain ⟨x2, e2, b2⟩ := sc_ar (gi v p0 (Int32.toNatClampNeg (J (k : Int) + J 2)))
  have v2 : vp_in (J (k : Int) + J 2) (alen S p0) := sc_in (j := 2) hp0 hk (by decide)
  obtain ⟨o, ho⟩ : ∃ o : Nat ⊕ Int, o = (measO h M x1 x2) := ⟨_, rfl⟩
  have hU : F_gc_measurement N a (J x1) (J x2) S v = some (rC f21 o) := by rw [ho]; exact gc_measurement (by omega) hR b1 b2
  have hC : ∀ c, o = .inl c → c = 1 ∨ c = 2 := by
    intro c hc
    rw [ho] at hc
    unfold measO at hc
    (repeat' split at hc) <;> cases hc <;> decide
  have hB0 : ∀ c, o = .inl c → 0 < c ∧ c < 100 := fun c hc => by have := hC c hc; omega
  have hB : thB (liO o ((h, c, g, t, p, M), sv, ps, re, ca, ch)) := thB_li hB0
  obtain ⟨S', v', l1, l2⟩ := lw_C (s := ((h, c, g, t, p, M), sv, ps, re, ca, ch)) (thr := (fun k0 => if k0 = 1 then lt (skip S 6) fun S6 => some (((J 1), S6, v)) else if k0 = 0 then lt (skip S 6) fun S8 => some (((J 2), S8, v)) else none)) hw hR0 hd0 hO hU (fun c hc => by rcases hC c hc with rfl | rfl <;> rfl) hB0
  have hd1 : dR S' v' m (h, c, g, t, p, M) sv ps re ca ch := l2.2.2.1
  have f1 : F_lw_measurement N a (J x1) (J x2) oa S v = some (J (uThr (liO o ((h, c, g, t, p, M), sv, ps, re, ca, ch))), S', v') := by
    unfold F_lw_measurement
    rw [grd_true _ hR.1.1.1]
    exact l1
  obtain ⟨u, t1, t2⟩ := law_tail (N := N) (i23 := i23) (p4 := J (k : Int)) (mF := F_gm_measurement m (J x1) (J x2) S' v') l2 hB (UM_QM l2.2.2.1 hs (by rw [ho]; exact QM_th (gm_measurement hd1 hs b1 b2)))
  refine ⟨S', u, ?_, t2, l2.2.2.2.2.1⟩
  have hp' : kin S' p0 = some (11, n) := l2.2.2.2.1.2.2.2.2.1
  have w1 : vp_in (J (k : Int) + J 1) (alen S' p0) := sc_in (j := 1) hp' hk (by decide)
  have y1 : gi v' p0 (Int32.toNatClampNeg (J (k : Int) + J 1)) = J x1 := by rw [gi_rw, l2.2.2.2.2.2.1]; exact e1
  have w2 : vp_in (J (k : Int) + J 2) (alen S' p0) := sc_in (j := 2) hp' hk (by decide)
  have y2 : gi v' p0 (Int32.toNatClampNeg (J (k : Int) + J 2)) = J x2 := by rw [gi_rw, l2.2.2.2.2.2.1]; exact e2
  unfold K_lw_law_677
  rw [grd_true _ (sc_P hp0), grd_true _ v1, grd_true _ v2, e1, e2, f1]
  simp only [Option.bind_some]
  rw [grd_true _ (sc_P hp'), grd_true _ w1, grd_true _ w2, y1, y2]
  exact t1
theorem st_reason (hF : flO) (hN : 7000000 ≤ N) (hq : q ≤ 1000) (hk : k + 5 < n ∧ n ≤ 100000) (hI : LI S v a m oa p0 n ln W q) : ST N i23 S p0 a m oa k n ln W q (K_lw_law_745 N i23 S v p0 a m oa (J (k : Int))) := by
  obtain ⟨s, hw, hR0, hd0, hO⟩ := hI
  obtain ⟨⟨h, c, g, t, p, M⟩, sv, ps, re, ca, ch⟩ := s
  have hR : cR S v a (h, c, g, t, p, M) sv ps re ca ch q := hR0
  have hd : dR S v m (h, c, g, t, p, M) sv ps re ca ch := hd0
  have hs : stV h c g t p M := cR_V hR
  have hp0 : kin S p0 = some (11, n) := hO.2.2.2.2.1
  have c1 := (gc_fields hR).1
  have m1 := (gm_fields hd).1
  refine ⟨S, th v m 0, ?_, LI_q (x := 0) hw (cR_q hR (by omega)) hd0 hO mqt_th, gw_0⟩
  unfold K_lw_law_745
  rw [grd_true _ hR.1.1.1, c1]
  simp only [Option.bind_some]
  rw [grd_true _ hd.1.1, m1]
  simp only [Option.bind_some, if_true]
theorem st_cause (hF : flO) (hN : 7000000 ≤ N) (hq : q ≤ 1000) (hk : k + 5 < n ∧ n ≤ 100000) (hI : LI S v a m oa p0 n ln W q) : ST N i23 S p0 a m oa k n ln W q (K_lw_law_758 N i23 S v p0 a m oa (J (k : Int))) := by
  obtain ⟨s, hw, hR0, hd0, hO⟩ := hI
  obtain ⟨⟨h, c, g, t, p, M⟩, sv, ps, re, ca, ch⟩ := s
  have hR : cR S v a (h, c, g, t, p, M) sv ps re ca ch q := hR0
  have hd : dR S v m (h, c, g, t, p, M) sv ps re ca ch := hd0
  have hs : stV h c g t p M := cR_V hR
  have hp0 : kin S p0 = some (11, n) := hO.2.2.2.2.1
  have c1 := (gc_fields hR).2.1
  have m1 := (gm_fields hd).2.1
  refine ⟨S, th v m 0, ?_, LI_q (x := 0) hw (cR_q hR (by omega)) hd0 hO mqt_th, gw_0⟩
  unfold K_lw_law_758
  rw [grd_true _ hR.1.1.1, c1]
  simp only [Option.bind_some]
  rw [grd_true _ hd.1.1, m1]
  simp only [Option.bind_some, if_true]
theorem st_chosenBy (hF : flO) (hN : 7000000 ≤ N) (hq : q ≤ 1000) (hk : k + 5 < n ∧ n ≤ 100000) (hI : LI S v a m oa p0 n ln W q) : ST N i23 S p0 a m oa k n ln W q (K_lw_law_771 N i23 S v p0 a m oa (J (k : Int))) := by
  obtain ⟨s, hw, hR0, hd0, hO⟩ := hI
  obtain ⟨⟨h, c, g, t, p, M⟩, sv, ps, re, ca, ch⟩ := s
  have hR : cR S v a (h, c, g, t, p, M) sv ps re ca ch q := hR0
  have hd : dR S v m (h, c, g, t, p, M) sv ps re ca ch := hd0
  have hs : stV h c g t p M := cR_V hR
  have hp0 : kin S p0 = some (11, n) := hO.2.2.2.2.1
  have c1 := (gc_fields hR).2.2
  have m1 := (gm_fields hd).2.2
  refine ⟨S, th v m 0, ?_, LI_q (x := 0) hw (cR_q hR (by omega)) hd0 hO mqt_th, gw_0⟩
  unfold K_lw_law_771
  rw [grd_true _ hR.1.1.1, c1]
  simp only [Option.bind_some]
  rw [grd_true _ hd.1.1, m1]
  simp only [Option.bind_some, if_true]
theorem st_addsUp (hF : flO) (hN : 7000000 ≤ N) (hq : q ≤ 1000) (hk : k + 5 < n ∧ n ≤ 100000) (hI : LI S v a m oa p0 n ln W q) : ST N i23 S p0 a m oa k n ln W q (K_lw_law_784 N i23 S v p0 a m oa (J (k : Int))) := by
  obtain ⟨s, hw, hR0, hd0, hO⟩ := hI
  obtain ⟨⟨h, c, g, t, p, M⟩, sv, ps, re, ca, ch⟩ := s
  have hR : cR S v a (h, c, g, t, p, M) sv ps re ca ch q := hR0
  have hd : dR S v m (h, c, g, t, p, M) sv ps re ca ch := hd0
  have hs : stV h c g t p M := cR_V hR
  have hp0 : kin S p0 = some (11, n) := hO.2.2.2.2.1
  have c1 := gc_addsUp hR
  have m1 := gm_addsUp hd
  refine ⟨S, th v m 0, ?_, LI_q (x := 0) hw (cR_q hR (by omega)) hd0 hO mqt_th, gw_0⟩
  unfold K_lw_law_784
  rw [grd_true _ hR.1.1.1, c1]
  simp only [Option.bind_some]
  rw [grd_true _ hd.1.1, m1]
  simp only [Option.bind_some, if_true]
theorem st_edgesIn (hF : flO) (hN : 7000000 ≤ N) (hq : q ≤ 1000) (hk : k + 5 < n ∧ n ≤ 100000) (hI : LI S v a m oa p0 n ln W q) : ST N i23 S p0 a m oa k n ln W q (K_lw_law_797 N i23 S v p0 a m oa (J (k : Int))) := by
  obtain ⟨s, hw, hR0, hd0, hO⟩ := hI
  obtain ⟨⟨h, c, g, t, p, M⟩, sv, ps, re, ca, ch⟩ := s
  have hR : cR S v a (h, c, g, t, p, M) sv ps re ca ch q := hR0
  have hd : dR S v m (h, c, g, t, p, M) sv ps re ca ch := hd0
  have hs : stV h c g t p M := cR_V hR
  have hp0 : kin S p0 = some (11, n) := hO.2.2.2.2.1
  obtain ⟨x1, e1, b1⟩ := sc_ar (gi v p0 (Int32.toNatClampNeg (J (k : Int) + J 1)))
  have v1 : vp_in (J (k : Int) + J 1) (alen S p0) := sc_in (j := 1) hp0 hk (by decide)
  obtain ⟨o, ho⟩ : ∃ o : Nat ⊕ Int, o = (inO x1 0 (sgK t p (3 * (h 0 + x1) + 2) g 2 - g 2)) := ⟨_, rfl⟩
  have hU : UC (F_gc_edgesIn N a (J x1) S v) (fun _ => 0) (liO o ((h, c, g, t, p, M), sv, ps, re, ca, ch)) a (q + 1) S v := by rw [ho]; exact UC_QC (s := ((h, c, g, t, p, M), sv, ps, re, ca, ch)) (gc_edgesIn (by omega) hw hR b1)
  have hC : ∀ c, o = .inl c → c = 1 := by
    intro c hc
    rw [ho] at hc
    unfold inO at hc
    (repeat' split at hc) <;> cases hc <;> decide
  have hB0 : ∀ c, o = .inl c → 0 < c ∧ c < 100 := fun c hc => by have := hC c hc; omega
  have hB : thB (liO o ((h, c, g, t, p, M), sv, ps, re, ca, ch)) := thB_li hB0
  obtain ⟨S', v', l1, l2⟩ := lw_UC (thr := (fun k0 => if k0 = 0 then lt (skip S 6) fun S9 => some (((J 1), S9, v)) else none)) hw hR0 hd0 hO hU (fun c hc => by rcases hC c (li_inl hc) with rfl <;> rfl) hB
  have hd1 : dR S' v' m (h, c, g, t, p, M) sv ps re ca ch := l2.2.2.1
  have f1 : F_lw_edgesIn N a (J x1) oa S v = some (J (uThr (liO o ((h, c, g, t, p, M), sv, ps, re, ca, ch))), S', v') := by
    unfold F_lw_edgesIn
    rw [grd_true _ hR.1.1.1]
    exact l1
  obtain ⟨u, t1, t2⟩ := law_tail (N := N) (i23 := i23) (p4 := J (k : Int)) (mF := F_gm_edgesIn N m (J x1) S' v') l2 hB (UM_QM l2.2.2.1 hs (by rw [ho]; exact gm_edgesIn (by omega) hd1 hs b1))
  refine ⟨S', u, ?_, t2, l2.2.2.2.2.1⟩
  have hp' : kin S' p0 = some (11, n) := l2.2.2.2.1.2.2.2.2.1
  have w1 : vp_in (J (k : Int) + J 1) (alen S' p0) := sc_in (j := 1) hp' hk (by decide)
  have y1 : gi v' p0 (Int32.toNatClampNeg (J (k : Int) + J 1)) = J x1 := by rw [gi_rw, l2.2.2.2.2.2.1]; exact e1
  unfold K_lw_law_797
  rw [grd_true _ (sc_P hp0), grd_true _ v1, e1, f1]
  simp only [Option.bind_some]
  rw [grd_true _ (sc_P hp'), grd_true _ w1, y1]
  exact t1
theorem st_outputsIn (hF : flO) (hN : 7000000 ≤ N) (hq : q ≤ 1000) (hk : k + 5 < n ∧ n ≤ 100000) (hI : LI S v a m oa p0 n ln W q) : ST N i23 S p0 a m oa k n ln W q (K_lw_law_853 N i23 S v p0 a m oa (J (k : Int))) := by
  obtain ⟨s, hw, hR0, hd0, hO⟩ := hI
  obtain ⟨⟨h, c, g, t, p, M⟩, sv, ps, re, ca, ch⟩ := s
  have hR : cR S v a (h, c, g, t, p, M) sv ps re ca ch q := hR0
  have hd : dR S v m (h, c, g, t, p, M) sv ps re ca ch := hd0
  have hs : stV h c g t p M := cR_V hR
  have hp0 : kin S p0 = some (11, n) := hO.2.2.2.2.1
  obtain ⟨x1, e1, b1⟩ := sc_ar (gi v p0 (Int32.toNatClampNeg (J (k : Int) + J 1)))
  have v1 : vp_in (J (k : Int) + J 1) (alen S p0) := sc_in (j := 1) hp0 hk (by decide)
  obtain ⟨o, ho⟩ : ∃ o : Nat ⊕ Int, o = (inO x1 0 (sgK t p (3 * (h 0 + x1) + 2) g 3 - g 3)) := ⟨_, rfl⟩
  have hU : UC (F_gc_outputsIn N a (J x1) S v) (fun _ => 0) (liO o ((h, c, g, t, p, M), sv, ps, re, ca, ch)) a (q + 1) S v := by rw [ho]; exact UC_QC (s := ((h, c, g, t, p, M), sv, ps, re, ca, ch)) (gc_outputsIn (by omega) hw hR b1)
  have hC : ∀ c, o = .inl c → c = 1 := by
    intro c hc
    rw [ho] at hc
    unfold inO at hc
    (repeat' split at hc) <;> cases hc <;> decide
  have hB0 : ∀ c, o = .inl c → 0 < c ∧ c < 100 := fun c hc => by have := hC c hc; omega
  have hB : thB (liO o ((h, c, g, t, p, M), sv, ps, re, ca, ch)) := thB_li hB0
  obtain ⟨S', v', l1, l2⟩ := lw_UC (thr := (fun k0 => if k0 = 0 then lt (skip S 6) fun S9 => some (((J 1), S9, v)) else none)) hw hR0 hd0 hO hU (fun c hc => by rcases hC c (li_inl hc) with rfl <;> rfl) hB
  have hd1 : dR S' v' m (h, c, g, t, p, M) sv ps re ca ch := l2.2.2.1
  have f1 : F_lw_outputsIn N a (J x1) oa S v = some (J (uThr (liO o ((h, c, g, t, p, M), sv, ps, re, ca, ch))), S', v') := by
    unfold F_lw_outputsIn
    rw [grd_true _ hR.1.1.1]
    exact l1
  obtain ⟨u, t1, t2⟩ := law_tail (N := N) (i23 := i23) (p4 := J (k : Int)) (mF := F_gm_outputsIn N m (J x1) S' v') l2 hB (UM_QM l2.2.2.1 hs (by rw [ho]; exact gm_outputsIn (by omega) hd1 hs b1))
  refine ⟨S', u, ?_, t2, l2.2.2.2.2.1⟩
  have hp' : kin S' p0 = some (11, n) := l2.2.2.2.1.2.2.2.2.1
  have w1 : vp_in (J (k : Int) + J 1) (alen S' p0) := sc_in (j := 1) hp' hk (by decide)
  have y1 : gi v' p0 (Int32.toNatClampNeg (J (k : Int) + J 1)) = J x1 := by rw [gi_rw, l2.2.2.2.2.2.1]; exact e1
  unfold K_lw_law_853
  rw [grd_true _ (sc_P hp0), grd_true _ v1, e1, f1]
  simp only [Option.bind_some]
  rw [grd_true _ (sc_P hp'), grd_true _ w1, y1]
  exact t1
theorem st_clocksIn (hF : flO) (hN : 7000000 ≤ N) (hq : q ≤ 1000) (hk : k + 5 < n ∧ n ≤ 100000) (hI : LI S v a m oa p0 n ln W q) : ST N i23 S p0 a m oa k n ln W q (K_lw_law_909 N i23 S v p0 a m oa (J (k : Int))) := by
  obtain ⟨s, hw, hR0, hd0, hO⟩ := hI
  obtain ⟨⟨h, c, g, t, p, M⟩, sv, ps, re, ca, ch⟩ := s
  have hR : cR S v a (h, c, g, t, p, M) sv ps re ca ch q := hR0
  have hd : dR S v m (h, c, g, t, p, M) sv ps re ca ch := hd0
  have hs : stV h c g t p M := cR_V hR
  have hp0 : kin S p0 = some (11, n) := hO.2.2.2.2.1
  obtain ⟨x1, e1, b1⟩ := sc_ar (gi v p0 (Int32.toNatClampNeg (J (k : Int) + J 1)))
  have v1 : vp_in (J (k : Int) + J 1) (alen S p0) := sc_in (j := 1) hp0 hk (by decide)
  obtain ⟨o, ho⟩ : ∃ o : Nat ⊕ Int, o = (inO x1 0 (ckK (h 0 + x1) c 5 - c 5)) := ⟨_, rfl⟩
  have hU : UC (F_gc_clocksIn N a (J x1) S v) (fun _ => 0) (liO o ((h, c, g, t, p, M), sv, ps, re, ca, ch)) a (q + 1) S v := by rw [ho]; exact UC_QC (s := ((h, c, g, t, p, M), sv, ps, re, ca, ch)) (gc_clocksIn (by omega) hw hR b1)
  have hC : ∀ c, o = .inl c → c = 1 := by
    intro c hc
    rw [ho] at hc
    unfold inO at hc
    (repeat' split at hc) <;> cases hc <;> decide
  have hB0 : ∀ c, o = .inl c → 0 < c ∧ c < 100 := fun c hc => by have := hC c hc; omega
  have hB : thB (liO o ((h, c, g, t, p, M), sv, ps, re, ca, ch)) := thB_li hB0
  obtain ⟨S', v', l1, l2⟩ := lw_UC (thr := (fun k0 => if k0 = 0 then lt (skip S 6) fun S9 => some (((J 1), S9, v)) else none)) hw hR0 hd0 hO hU (fun c hc => by rcases hC c (li_inl hc) with rfl <;> rfl) hB
  have hd1 : dR S' v' m (h, c, g, t, p, M) sv ps re ca ch := l2.2.2.1
  have f1 : F_lw_clocksIn N a (J x1) oa S v = some (J (uThr (liO o ((h, c, g, t, p, M), sv, ps, re, ca, ch))), S', v') := by
    unfold F_lw_clocksIn
    rw [grd_true _ hR.1.1.1]
    exact l1
  obtain ⟨u, t1, t2⟩ := law_tail (N := N) (i23 := i23) (p4 := J (k : Int)) (mF := F_gm_clocksIn N m (J x1) S' v') l2 hB (UM_QM l2.2.2.1 hs (by rw [ho]; exact gm_clocksIn (by omega) hd1 hs b1))
  refine ⟨S', u, ?_, t2, l2.2.2.2.2.1⟩
  have hp' : kin S' p0 = some (11, n) := l2.2.2.2.1.2.2.2.2.1
  have w1 : vp_in (J (k : Int) + J 1) (alen S' p0) := sc_in (j := 1) hp' hk (by decide)
  have y1 : gi v' p0 (Int32.toNatClampNeg (J (k : Int) + J 1)) = J x1 := by rw [gi_rw, l2.2.2.2.2.2.1]; exact e1
  unfold K_lw_law_909
  rw [grd_true _ (sc_P hp0), grd_true _ v1, e1, f1]
  simp only [Option.bind_some]
  rw [grd_true _ (sc_P hp'), grd_true _ w1, y1]
  exact t1
theorem st_driftIn (hF : flO) (hN : 7000000 ≤ N) (hq : q ≤ 1000) (hk : k + 5 < n ∧ n ≤ 100000) (hI : LI S v a m oa p0 n ln W q) : ST N i23 S p0 a m oa k n ln W q (K_lw_law_965 N i23 S v p0 a m oa (J (k : Int))) := by
  obtain ⟨s, hw, hR0, hd0, hO⟩ := hI
  obtain ⟨⟨h, c, g, t, p, M⟩, sv, ps, re, ca, ch⟩ := s
  have hR : cR S v a (h, c, g, t, p, M) sv ps re ca ch q := hR0
  have hd : dR S v m (h, c, g, t, p, M) sv ps re ca ch := hd0
  have hs : stV h c g t p M := cR_V hR
  have hp0 : kin S p0 = some (11, n) := hO.2.2.2.2.1
  obtain ⟨x1, e1, b1⟩ := sc_ar (gi v p0 (Int32.toNatClampNeg (J (k : Int) + J 1)))
  have v1 : vp_in (J (k : Int) + J 1) (alen S p0) := sc_in (j := 1) hp0 hk (by decide)
  obtain ⟨o, ho⟩ : ∃ o : Nat ⊕ Int, o = (inO x1 0 (ckK (h 0 + x1) c 1)) := ⟨_, rfl⟩
  have hU : UC (F_gc_driftIn N a (J x1) S v) (fun _ => 0) (liO o ((h, c, g, t, p, M), sv, ps, re, ca, ch)) a (q + 1) S v := by rw [ho]; exact UC_QC (s := ((h, c, g, t, p, M), sv, ps, re, ca, ch)) (gc_driftIn (by omega) hw hR b1)
  have hC : ∀ c, o = .inl c → c = 1 := by
    intro c hc
    rw [ho] at hc
    unfold inO at hc
    (repeat' split at hc) <;> cases hc <;> decide
  have hB0 : ∀ c, o = .inl c → 0 < c ∧ c < 100 := fun c hc => by have := hC c hc; omega
  have hB : thB (liO o ((h, c, g, t, p, M), sv, ps, re, ca, ch)) := thB_li hB0
  obtain ⟨S', v', l1, l2⟩ := lw_UC (thr := (fun k0 => if k0 = 0 then lt (skip S 6) fun S9 => some (((J 1), S9, v)) else none)) hw hR0 hd0 hO hU (fun c hc => by rcases hC c (li_inl hc) with rfl <;> rfl) hB
  have hd1 : dR S' v' m (h, c, g, t, p, M) sv ps re ca ch := l2.2.2.1
  have f1 : F_lw_driftIn N a (J x1) oa S v = some (J (uThr (liO o ((h, c, g, t, p, M), sv, ps, re, ca, ch))), S', v') := by
    unfold F_lw_driftIn
    rw [grd_true _ hR.1.1.1]
    exact l1
  obtain ⟨u, t1, t2⟩ := law_tail (N := N) (i23 := i23) (p4 := J (k : Int)) (mF := F_gm_driftIn N m (J x1) S' v') l2 hB (UM_QM l2.2.2.1 hs (by rw [ho]; exact gm_driftIn (by omega) hd1 hs b1))
  refine ⟨S', u, ?_, t2, l2.2.2.2.2.1⟩
  have hp' : kin S' p0 = some (11, n) := l2.2.2.2.1.2.2.2.2.1
  have w1 : vp_in (J (k : Int) + J 1) (alen S' p0) := sc_in (j := 1) hp' hk (by decide)
  have y1 : gi v' p0 (Int32.toNatClampNeg (J (k : Int) + J 1)) = J x1 := by rw [gi_rw, l2.2.2.2.2.2.1]; exact e1
  unfold K_lw_law_965
  rw [grd_true _ (sc_P hp0), grd_true _ v1, e1, f1]
  simp only [Option.bind_some]
  rw [grd_true _ (sc_P hp'), grd_true _ w1, y1]
  exact t1
theorem st_nextOutput (hF : flO) (hN : 7000000 ≤ N) (hq : q ≤ 1000) (hk : k + 5 < n ∧ n ≤ 100000) (hI : LI S v a m oa p0 n ln W q) : ST N i23 S p0 a m oa k n ln W q (K_lw_law_1021 N i23 S v p0 a m oa (J (k : Int))) := by
  obtain ⟨s, hw, hR0, hd0, hO⟩ := hI
  obtain ⟨⟨h, c, g, t, p, M⟩, sv, ps, re, ca, ch⟩ := s
  have hR : cR S v a (h, c, g, t, p, M) sv ps re ca ch q := hR0
  have hd : dR S v m (h, c, g, t, p, M) sv ps re ca ch := hd0
  have hs : stV h c g t p M := cR_V hR
  have hp0 : kin S p0 = some (11, n) := hO.2.2.2.2.1
  have c1 := gc_nextOutput (by omega) hR
  obtain ⟨u, m1, m2⟩ := gm_nextOutput (by omega) hd hs
  refine ⟨S, u, ?_, LI_q (x := 0) hw (cR_q hR (by omega)) hd0 hO m2, gw_0⟩
  unfold K_lw_law_1021
  rw [grd_true _ hR.1.1.1, c1]
  simp only [Option.bind_some]
  rw [grd_true _ hd.1.1, m1]
  simp only [Option.bind_some]
  exact if_pos rfl
theorem st_changesIn (hF : flO) (hN : 7000000 ≤ N) (hq : q ≤ 1000) (hk : k + 5 < n ∧ n ≤ 100000) (hI : LI S v a m oa p0 n ln W q) : ST N i23 S p0 a m oa k n ln W q (K_lw_law_1034 N i23 S v p0 a m oa (J (k : Int))) := by
  obtain ⟨s, hw, hR0, hd0, hO⟩ := hI
  obtain ⟨⟨h, c, g, t, p, M⟩, sv, ps, re, ca, ch⟩ := s
  have hR : cR S v a (h, c, g, t, p, M) sv ps re ca ch q := hR0
  have hd : dR S v m (h, c, g, t, p, M) sv ps re ca ch := hd0
  have hs : stV h c g t p M := cR_V hR
  have hp0 : kin S p0 = some (11, n) := hO.2.2.2.2.1
  have c1 := gc_changesIn hR
  have m1 := gm_changesIn hd hs
  refine ⟨S, th v m 0, ?_, LI_q (x := 0) hw (cR_q hR (by omega)) hd0 hO mqt_th, gw_0⟩
  unfold K_lw_law_1034
  rw [grd_true _ hR.1.1.1, c1]
  simp only [Option.bind_some]
  rw [grd_true _ hd.1.1, m1]
  simp only [Option.bind_some, if_true]
theorem st_timeOfEdge (hF : flO) (hN : 7000000 ≤ N) (hq : q ≤ 1000) (hk : k + 5 < n ∧ n ≤ 100000) (hI : LI S v a m oa p0 n ln W q) : ST N i23 S p0 a m oa k n ln W q (K_lw_law_1047 N i23 S v p0 a m oa (J (k : Int))) := by
  obtain ⟨s, hw, hR0, hd0, hO⟩ := hI
  obtain ⟨⟨h, c, g, t, p, M⟩, sv, ps, re, ca, ch⟩ := s
  have hR : cR S v a (h, c, g, t, p, M) sv ps re ca ch q := hR0
  have hd : dR S v m (h, c, g, t, p, M) sv ps re ca ch := hd0
  have hs : stV h c g t p M := cR_V hR
  have hp0 : kin S p0 = some (11, n) := hO.2.2.2.2.1
  obtain ⟨x1, e1, b1⟩ := sc_ar (gi v p0 (Int32.toNatClampNeg (J (k : Int) + J 1)))
  have v1 : vp_in (J (k : Int) + J 1) (alen S p0) := sc_in (j := 1) hp0 hk (by decide)
  obtain ⟨o, ho⟩ : ∃ o : Nat ⊕ Int, o = (numO x1 (eT t p x1 g)) := ⟨_, rfl⟩
  have hU : F_gc_timeOfEdge N a (J x1) S v = some (rC (fun _ => 0) o) := by rw [ho]; exact gc_timeOfEdge (by omega) hR b1
  have hC : ∀ c, o = .inl c → c = 1 := by
    intro c hc
    rw [ho] at hc
    unfold numO at hc
    (repeat' split at hc) <;> cases hc <;> decide
  have hB0 : ∀ c, o = .inl c → 0 < c ∧ c < 100 := fun c hc => by have := hC c hc; omega
  have hB : thB (liO o ((h, c, g, t, p, M), sv, ps, re, ca, ch)) := thB_li hB0
  obtain ⟨S', v', l1, l2⟩ := lw_C (s := ((h, c, g, t, p, M), sv, ps, re, ca, ch)) (thr := (fun k0 => if k0 = 0 then lt (skip S 6) fun S6 => some (((J 1), S6, v)) else none)) hw hR0 hd0 hO hU (fun c hc => by rcases hC c hc with rfl <;> rfl) hB0
  have hd1 : dR S' v' m (h, c, g, t, p, M) sv ps re ca ch := l2.2.2.1
  have f1 : F_lw_timeOfEdge N a (J x1) oa S v = some (J (uThr (liO o ((h, c, g, t, p, M), sv, ps, re, ca, ch))), S', v') := by
    unfold F_lw_timeOfEdge
    rw [grd_true _ hR.1.1.1]
    exact l1
  obtain ⟨u, t1, t2⟩ := law_tail (N := N) (i23 := i23) (p4 := J (k : Int)) (mF := F_gm_timeOfEdge N m (J x1) S' v') l2 hB (UM_QM l2.2.2.1 hs (by rw [ho]; exact gm_timeOfEdge (by omega) hd1 hs b1))
  refine ⟨S', u, ?_, t2, l2.2.2.2.2.1⟩
  have hp' : kin S' p0 = some (11, n) := l2.2.2.2.1.2.2.2.2.1
  have w1 : vp_in (J (k : Int) + J 1) (alen S' p0) := sc_in (j := 1) hp' hk (by decide)
  have y1 : gi v' p0 (Int32.toNatClampNeg (J (k : Int) + J 1)) = J x1 := by rw [gi_rw, l2.2.2.2.2.2.1]; exact e1
  unfold K_lw_law_1047
  rw [grd_true _ (sc_P hp0), grd_true _ v1, e1, f1]
  simp only [Option.bind_some]
  rw [grd_true _ (sc_P hp'), grd_true _ w1, y1]
  exact t1
theorem st_timeOfClock (hF : flO) (hN : 7000000 ≤ N) (hq : q ≤ 1000) (hk : k + 5 < n ∧ n ≤ 100000) (hI : LI S v a m oa p0 n ln W q) : ST N i23 S p0 a m oa k n ln W q (K_lw_law_1103 N i23 S v p0 a m oa (J (k : Int))) := by
  obtain ⟨s, hw, hR0, hd0, hO⟩ := hI
  obtain ⟨⟨h, c, g, t, p, M⟩, sv, ps, re, ca, ch⟩ := s
  have hR : cR S v a (h, c, g, t, p, M) sv ps re ca ch q := hR0
  have hd : dR S v m (h, c, g, t, p, M) sv ps re ca ch := hd0
  have hs : stV h c g t p M := cR_V hR
  have hp0 : kin S p0 = some (11, n) := hO.2.2.2.2.1
  obtain ⟨x1, e1, b1⟩ := sc_ar (gi v p0 (Int32.toNatClampNeg (J (k : Int) + J 1)))
  have v1 : vp_in (J (k : Int) + J 1) (alen S p0) := sc_in (j := 1) hp0 hk (by decide)
  obtain ⟨o, ho⟩ : ∃ o : Nat ⊕ Int, o = (numO x1 (tcZ c x1)) := ⟨_, rfl⟩
  have hU : UC (F_gc_timeOfClock N a (J x1) S v) (fun _ => 0) (liO o ((h, c, g, t, p, M), sv, ps, re, ca, ch)) a (q + 1) S v := by rw [ho]; exact UC_QC (s := ((h, c, g, t, p, M), sv, ps, re, ca, ch)) (gc_timeOfClock (by omega) hw hR b1)
  have hC : ∀ c, o = .inl c → c = 1 := by
    intro c hc
    rw [ho] at hc
    unfold numO at hc
    (repeat' split at hc) <;> cases hc <;> decide
  have hB0 : ∀ c, o = .inl c → 0 < c ∧ c < 100 := fun c hc => by have := hC c hc; omega
  have hB : thB (liO o ((h, c, g, t, p, M), sv, ps, re, ca, ch)) := thB_li hB0
  obtain ⟨S', v', l1, l2⟩ := lw_UC (thr := (fun k0 => if k0 = 0 then lt (skip S 6) fun S9 => some (((J 1), S9, v)) else none)) hw hR0 hd0 hO hU (fun c hc => by rcases hC c (li_inl hc) with rfl <;> rfl) hB
  have hd1 : dR S' v' m (h, c, g, t, p, M) sv ps re ca ch := l2.2.2.1
  have f1 : F_lw_timeOfClock N a (J x1) oa S v = some (J (uThr (liO o ((h, c, g, t, p, M), sv, ps, re, ca, ch))), S', v') := by
    unfold F_lw_timeOfClock
    rw [grd_true _ hR.1.1.1]
    exact l1
  obtain ⟨u, t1, t2⟩ := law_tail (N := N) (i23 := i23) (p4 := J (k : Int)) (mF := F_gm_timeOfClock N m (J x1) S' v') l2 hB (UM_QM l2.2.2.1 hs (by rw [ho]; exact gm_timeOfClock (by omega) hd1 hs b1))
  refine ⟨S', u, ?_, t2, l2.2.2.2.2.1⟩
  have hp' : kin S' p0 = some (11, n) := l2.2.2.2.1.2.2.2.2.1
  have w1 : vp_in (J (k : Int) + J 1) (alen S' p0) := sc_in (j := 1) hp' hk (by decide)
  have y1 : gi v' p0 (Int32.toNatClampNeg (J (k : Int) + J 1)) = J x1 := by rw [gi_rw, l2.2.2.2.2.2.1]; exact e1
  unfold K_lw_law_1103
  rw [grd_true _ (sc_P hp0), grd_true _ v1, e1, f1]
  simp only [Option.bind_some]
  rw [grd_true _ (sc_P hp'), grd_true _ w1, y1]
  exact t1
theorem st_wobble (hF : flO) (hN : 7000000 ≤ N) (hq : q ≤ 1000) (hk : k + 5 < n ∧ n ≤ 100000) (hI : LI S v a m oa p0 n ln W q) : ST N i23 S p0 a m oa k n ln W q (K_lw_law_1159 N i23 S v p0 a m oa (J (k : Int))) := by
  obtain ⟨s, hw, hR0, hd0, hO⟩ := hI
  obtain ⟨⟨h, c, g, t, p, M⟩, sv, ps, re, ca, ch⟩ := s
  have hR : cR S v a (h, c, g, t, p, M) sv ps re ca ch q := hR0
  have hd : dR S v m (h, c, g, t, p, M) sv ps re ca ch := hd0
  have hs : stV h c g t p M := cR_V hR
  have hp0 : kin S p0 = some (11, n) := hO.2.2.2.2.1
  obtain ⟨x1, e1, b1⟩ := sc_ar (gi v p0 (Int32.toNatClampNeg (J (k : Int) + J 1)))
  have v1 : vp_in (J (k : Int) + J 1) (alen S p0) := sc_in (j := 1) hp0 hk (by decide)
  obtain ⟨o, ho⟩ : ∃ o : Nat ⊕ Int, o = (numO x1 (woZ c x1.toNat)) := ⟨_, rfl⟩
  have hU : UC (F_gc_wobble N a (J x1) S v) (fun _ => 0) (liO o ((h, c, g, t, p, M), sv, ps, re, ca, ch)) a (q + 1) S v := by rw [ho]; exact UC_QC (s := ((h, c, g, t, p, M), sv, ps, re, ca, ch)) (gc_wobble (by omega) hw hR b1)
  have hC : ∀ c, o = .inl c → c = 1 := by
    intro c hc
    rw [ho] at hc
    unfold numO at hc
    (repeat' split at hc) <;> cases hc <;> decide
  have hB0 : ∀ c, o = .inl c → 0 < c ∧ c < 100 := fun c hc => by have := hC c hc; omega
  have hB : thB (liO o ((h, c, g, t, p, M), sv, ps, re, ca, ch)) := thB_li hB0
  obtain ⟨S', v', l1, l2⟩ := lw_UC (thr := (fun k0 => if k0 = 0 then lt (skip S 6) fun S9 => some (((J 1), S9, v)) else none)) hw hR0 hd0 hO hU (fun c hc => by rcases hC c (li_inl hc) with rfl <;> rfl) hB
  have hd1 : dR S' v' m (h, c, g, t, p, M) sv ps re ca ch := l2.2.2.1
  have f1 : F_lw_wobble N a (J x1) oa S v = some (J (uThr (liO o ((h, c, g, t, p, M), sv, ps, re, ca, ch))), S', v') := by
    unfold F_lw_wobble
    rw [grd_true _ hR.1.1.1]
    exact l1
  obtain ⟨u, t1, t2⟩ := law_tail (N := N) (i23 := i23) (p4 := J (k : Int)) (mF := F_gm_wobble N m (J x1) S' v') l2 hB (UM_QM l2.2.2.1 hs (by rw [ho]; exact gm_wobble (by omega) hd1 hs b1))
  refine ⟨S', u, ?_, t2, l2.2.2.2.2.1⟩
  have hp' : kin S' p0 = some (11, n) := l2.2.2.2.1.2.2.2.2.1
  have w1 : vp_in (J (k : Int) + J 1) (alen S' p0) := sc_in (j := 1) hp' hk (by decide)
  have y1 : gi v' p0 (Int32.toNatClampNeg (J (k : Int) + J 1)) = J x1 := by rw [gi_rw, l2.2.2.2.2.2.1]; exact e1
  unfold K_lw_law_1159
  rw [grd_true _ (sc_P hp0), grd_true _ v1, e1, f1]
  simp only [Option.bind_some]
  rw [grd_true _ (sc_P hp'), grd_true _ w1, y1]
  exact t1
theorem st_clocksTo (hF : flO) (hN : 7000000 ≤ N) (hq : q ≤ 1000) (hk : k + 5 < n ∧ n ≤ 100000) (hI : LI S v a m oa p0 n ln W q) : ST N i23 S p0 a m oa k n ln W q (K_lw_law_1215 N i23 S v p0 a m oa (J (k : Int))) := by
  obtain ⟨s, hw, hR0, hd0, hO⟩ := hI
  obtain ⟨⟨h, c, g, t, p, M⟩, sv, ps, re, ca, ch⟩ := s
  have hR : cR S v a (h, c, g, t, p, M) sv ps re ca ch q := hR0
  have hd : dR S v m (h, c, g, t, p, M) sv ps re ca ch := hd0
  have hs : stV h c g t p M := cR_V hR
  have hp0 : kin S p0 = some (11, n) := hO.2.2.2.2.1
  obtain ⟨x1, e1, b1⟩ := sc_ar (gi v p0 (Int32.toNatClampNeg (J (k : Int) + J 1)))
  have v1 : vp_in (J (k : Int) + J 1) (alen S p0) := sc_in (j := 1) hp0 hk (by decide)
  obtain ⟨o, ho⟩ : ∃ o : Nat ⊕ Int, o = (clkO c x1) := ⟨_, rfl⟩
  have hU : F_gc_clocksTo a (J x1) S v = some (rC (fun _ => 0) o) := by rw [ho]; exact gc_clocksTo hR b1
  have hC : ∀ c, o = .inl c → c = 1 := by
    intro c hc
    rw [ho] at hc
    unfold clkO at hc
    (repeat' split at hc) <;> cases hc <;> decide
  have hB0 : ∀ c, o = .inl c → 0 < c ∧ c < 100 := fun c hc => by have := hC c hc; omega
  have hB : thB (liO o ((h, c, g, t, p, M), sv, ps, re, ca, ch)) := thB_li hB0
  obtain ⟨S', v', l1, l2⟩ := lw_C (s := ((h, c, g, t, p, M), sv, ps, re, ca, ch)) (thr := (fun k0 => if k0 = 0 then lt (skip S 6) fun S6 => some (((J 1), S6, v)) else none)) hw hR0 hd0 hO hU (fun c hc => by rcases hC c hc with rfl <;> rfl) hB0
  have hd1 : dR S' v' m (h, c, g, t, p, M) sv ps re ca ch := l2.2.2.1
  have f1 : F_lw_clocksTo a (J x1) oa S v = some (J (uThr (liO o ((h, c, g, t, p, M), sv, ps, re, ca, ch))), S', v') := by
    unfold F_lw_clocksTo
    rw [grd_true _ hR.1.1.1]
    exact l1
  obtain ⟨u, t1, t2⟩ := law_tail (N := N) (i23 := i23) (p4 := J (k : Int)) (mF := F_gm_clocksTo m (J x1) S' v') l2 hB (UM_QM l2.2.2.1 hs (by rw [ho]; exact QM_th (gm_clocksTo hd1 hs b1)))
  refine ⟨S', u, ?_, t2, l2.2.2.2.2.1⟩
  have hp' : kin S' p0 = some (11, n) := l2.2.2.2.1.2.2.2.2.1
  have w1 : vp_in (J (k : Int) + J 1) (alen S' p0) := sc_in (j := 1) hp' hk (by decide)
  have y1 : gi v' p0 (Int32.toNatClampNeg (J (k : Int) + J 1)) = J x1 := by rw [gi_rw, l2.2.2.2.2.2.1]; exact e1
  unfold K_lw_law_1215
  rw [grd_true _ (sc_P hp0), grd_true _ v1, e1, f1]
  simp only [Option.bind_some]
  rw [grd_true _ (sc_P hp'), grd_true _ w1, y1]
  exact t1
theorem st_byGate (hF : flO) (hN : 7000000 ≤ N) (hq : q ≤ 1000) (hk : k + 5 < n ∧ n ≤ 100000) (hI : LI S v a m oa p0 n ln W q) : ST N i23 S p0 a m oa k n ln W q (K_lw_law_1271 N i23 S v p0 a m oa (J (k : Int))) := by
  obtain ⟨s, hw, hR0, hd0, hO⟩ := hI
  obtain ⟨⟨h, c, g, t, p, M⟩, sv, ps, re, ca, ch⟩ := s
  have hR : cR S v a (h, c, g, t, p, M) sv ps re ca ch q := hR0
  have hd : dR S v m (h, c, g, t, p, M) sv ps re ca ch := hd0
  have hs : stV h c g t p M := cR_V hR
  have hp0 : kin S p0 = some (11, n) := hO.2.2.2.2.1
  obtain ⟨x1, e1, b1⟩ := sc_ar (gi v p0 (Int32.toNatClampNeg (J (k : Int) + J 1)))
  have v1 : vp_in (J (k : Int) + J 1) (alen S p0) := sc_in (j := 1) hp0 hk (by decide)
  obtain ⟨o, ho⟩ : ∃ o : Nat ⊕ Int, o = (bySO x1 (fG h c g t p x1)) := ⟨_, rfl⟩
  have hU : UC (F_gc_byGate N a (J x1) S v) (fun _ => 0) (liO o ((h, c, g, t, p, M), sv, ps, re, ca, ch)) a (q + 1) S v := by rw [ho]; exact UC_QC (s := ((h, c, g, t, p, M), sv, ps, re, ca, ch)) (gc_byGate (by omega) hw hR b1)
  have hC : ∀ c, o = .inl c → c = 1 := by
    intro c hc
    rw [ho] at hc
    unfold bySO at hc
    (repeat' split at hc) <;> cases hc <;> decide
  have hB0 : ∀ c, o = .inl c → 0 < c ∧ c < 100 := fun c hc => by have := hC c hc; omega
  have hB : thB (liO o ((h, c, g, t, p, M), sv, ps, re, ca, ch)) := thB_li hB0
  obtain ⟨S', v', l1, l2⟩ := lw_UC (thr := (fun k0 => if k0 = 0 then lt (skip S 6) fun S9 => some (((J 1), S9, v)) else none)) hw hR0 hd0 hO hU (fun c hc => by rcases hC c (li_inl hc) with rfl <;> rfl) hB
  have hd1 : dR S' v' m (h, c, g, t, p, M) sv ps re ca ch := l2.2.2.1
  have f1 : F_lw_byGate N a (J x1) oa S v = some (J (uThr (liO o ((h, c, g, t, p, M), sv, ps, re, ca, ch))), S', v') := by
    unfold F_lw_byGate
    rw [grd_true _ hR.1.1.1]
    exact l1
  obtain ⟨u, t1, t2⟩ := law_tail (N := N) (i23 := i23) (p4 := J (k : Int)) (mF := F_gm_byGate N m (J x1) S' v') l2 hB (UM_QM l2.2.2.1 hs (by rw [ho]; exact gm_byGate (by omega) hd1 hs b1))
  refine ⟨S', u, ?_, t2, l2.2.2.2.2.1⟩
  have hp' : kin S' p0 = some (11, n) := l2.2.2.2.1.2.2.2.2.1
  have w1 : vp_in (J (k : Int) + J 1) (alen S' p0) := sc_in (j := 1) hp' hk (by decide)
  have y1 : gi v' p0 (Int32.toNatClampNeg (J (k : Int) + J 1)) = J x1 := by rw [gi_rw, l2.2.2.2.2.2.1]; exact e1
  unfold K_lw_law_1271
  rw [grd_true _ (sc_P hp0), grd_true _ v1, e1, f1]
  simp only [Option.bind_some]
  rw [grd_true _ (sc_P hp'), grd_true _ w1, y1]
  exact t1
theorem st_byPeriod (hF : flO) (hN : 7000000 ≤ N) (hq : q ≤ 1000) (hk : k + 5 < n ∧ n ≤ 100000) (hI : LI S v a m oa p0 n ln W q) : ST N i23 S p0 a m oa k n ln W q (K_lw_law_1327 N i23 S v p0 a m oa (J (k : Int))) := by
  obtain ⟨s, hw, hR0, hd0, hO⟩ := hI
  obtain ⟨⟨h, c, g, t, p, M⟩, sv, ps, re, ca, ch⟩ := s
  have hR : cR S v a (h, c, g, t, p, M) sv ps re ca ch q := hR0
  have hd : dR S v m (h, c, g, t, p, M) sv ps re ca ch := hd0
  have hs : stV h c g t p M := cR_V hR
  have hp0 : kin S p0 = some (11, n) := hO.2.2.2.2.1
  obtain ⟨x1, e1, b1⟩ := sc_ar (gi v p0 (Int32.toNatClampNeg (J (k : Int) + J 1)))
  have v1 : vp_in (J (k : Int) + J 1) (alen S p0) := sc_in (j := 1) hp0 hk (by decide)
  obtain ⟨o, ho⟩ : ∃ o : Nat ⊕ Int, o = (bySO x1 (fP h c g t p x1)) := ⟨_, rfl⟩
  have hU : UC (F_gc_byPeriod N a (J x1) S v) (fun _ => 0) (liO o ((h, c, g, t, p, M), sv, ps, re, ca, ch)) a (q + 1) S v := by rw [ho]; exact UC_QC (s := ((h, c, g, t, p, M), sv, ps, re, ca, ch)) (gc_byPeriod (by omega) hw hR b1)
  have hC : ∀ c, o = .inl c → c = 1 := by
    intro c hc
    rw [ho] at hc
    unfold bySO at hc
    (repeat' split at hc) <;> cases hc <;> decide
  have hB0 : ∀ c, o = .inl c → 0 < c ∧ c < 100 := fun c hc => by have := hC c hc; omega
  have hB : thB (liO o ((h, c, g, t, p, M), sv, ps, re, ca, ch)) := thB_li hB0
  obtain ⟨S', v', l1, l2⟩ := lw_UC (thr := (fun k0 => if k0 = 0 then lt (skip S 6) fun S9 => some (((J 1), S9, v)) else none)) hw hR0 hd0 hO hU (fun c hc => by rcases hC c (li_inl hc) with rfl <;> rfl) hB
  have hd1 : dR S' v' m (h, c, g, t, p, M) sv ps re ca ch := l2.2.2.1
  have f1 : F_lw_byPeriod N a (J x1) oa S v = some (J (uThr (liO o ((h, c, g, t, p, M), sv, ps, re, ca, ch))), S', v') := by
    unfold F_lw_byPeriod
    rw [grd_true _ hR.1.1.1]
    exact l1
  obtain ⟨u, t1, t2⟩ := law_tail (N := N) (i23 := i23) (p4 := J (k : Int)) (mF := F_gm_byPeriod N m (J x1) S' v') l2 hB (UM_QM l2.2.2.1 hs (by rw [ho]; exact gm_byPeriod (by omega) hd1 hs b1))
  refine ⟨S', u, ?_, t2, l2.2.2.2.2.1⟩
  have hp' : kin S' p0 = some (11, n) := l2.2.2.2.1.2.2.2.2.1
  have w1 : vp_in (J (k : Int) + J 1) (alen S' p0) := sc_in (j := 1) hp' hk (by decide)
  have y1 : gi v' p0 (Int32.toNatClampNeg (J (k : Int) + J 1)) = J x1 := by rw [gi_rw, l2.2.2.2.2.2.1]; exact e1
  unfold K_lw_law_1327
  rw [grd_true _ (sc_P hp0), grd_true _ v1, e1, f1]
  simp only [Option.bind_some]
  rw [grd_true _ (sc_P hp'), grd_true _ w1, y1]
  exact t1
theorem st_trueRate (hF : flO) (hN : 7000000 ≤ N) (hq : q ≤ 1000) (hk : k + 5 < n ∧ n ≤ 100000) (hI : LI S v a m oa p0 n ln W q) : ST N i23 S p0 a m oa k n ln W q (K_lw_law_1383 N i23 S v p0 a m oa (J (k : Int))) := by
  obtain ⟨s, hw, hR0, hd0, hO⟩ := hI
  obtain ⟨⟨h, c, g, t, p, M⟩, sv, ps, re, ca, ch⟩ := s
  have hR : cR S v a (h, c, g, t, p, M) sv ps re ca ch q := hR0
  have hd : dR S v m (h, c, g, t, p, M) sv ps re ca ch := hd0
  have hs : stV h c g t p M := cR_V hR
  have hp0 : kin S p0 = some (11, n) := hO.2.2.2.2.1
  obtain ⟨x1, e1, b1⟩ := sc_ar (gi v p0 (Int32.toNatClampNeg (J (k : Int) + J 1)))
  have v1 : vp_in (J (k : Int) + J 1) (alen S p0) := sc_in (j := 1) hp0 hk (by decide)
  obtain ⟨o, ho⟩ : ∃ o : Nat ⊕ Int, o = (inO x1 1 (rtI (sgK t p (3 * (h 0 + x1) + 2) g 2 - g 2) x1).toInt) := ⟨_, rfl⟩
  have hU : UC (F_gc_trueRate N a (J x1) S v) (fun _ => 0) (liO o ((h, c, g, t, p, M), sv, ps, re, ca, ch)) a (q + 1) S v := by rw [ho]; exact UC_QC (s := ((h, c, g, t, p, M), sv, ps, re, ca, ch)) (gc_trueRate (by omega) hw hR b1)
  have hC : ∀ c, o = .inl c → c = 1 := by
    intro c hc
    rw [ho] at hc
    unfold inO at hc
    (repeat' split at hc) <;> cases hc <;> decide
  have hB0 : ∀ c, o = .inl c → 0 < c ∧ c < 100 := fun c hc => by have := hC c hc; omega
  have hB : thB (liO o ((h, c, g, t, p, M), sv, ps, re, ca, ch)) := thB_li hB0
  obtain ⟨S', v', l1, l2⟩ := lw_UC (thr := (fun k0 => if k0 = 0 then lt (skip S 6) fun S9 => some (((J 1), S9, v)) else none)) hw hR0 hd0 hO hU (fun c hc => by rcases hC c (li_inl hc) with rfl <;> rfl) hB
  have hd1 : dR S' v' m (h, c, g, t, p, M) sv ps re ca ch := l2.2.2.1
  have f1 : F_lw_trueRate N a (J x1) oa S v = some (J (uThr (liO o ((h, c, g, t, p, M), sv, ps, re, ca, ch))), S', v') := by
    unfold F_lw_trueRate
    rw [grd_true _ hR.1.1.1]
    exact l1
  obtain ⟨u, t1, t2⟩ := law_tail (N := N) (i23 := i23) (p4 := J (k : Int)) (mF := F_gm_trueRate N m (J x1) S' v') l2 hB (UM_QM l2.2.2.1 hs (by rw [ho]; exact gm_trueRate (by omega) hd1 hs b1))
  refine ⟨S', u, ?_, t2, l2.2.2.2.2.1⟩
  have hp' : kin S' p0 = some (11, n) := l2.2.2.2.1.2.2.2.2.1
  have w1 : vp_in (J (k : Int) + J 1) (alen S' p0) := sc_in (j := 1) hp' hk (by decide)
  have y1 : gi v' p0 (Int32.toNatClampNeg (J (k : Int) + J 1)) = J x1 := by rw [gi_rw, l2.2.2.2.2.2.1]; exact e1
  unfold K_lw_law_1383
  rw [grd_true _ (sc_P hp0), grd_true _ v1, e1, f1]
  simp only [Option.bind_some]
  rw [grd_true _ (sc_P hp'), grd_true _ w1, y1]
  exact t1
theorem st_longestSilence (hF : flO) (hN : 7000000 ≤ N) (hq : q ≤ 1000) (hk : k + 5 < n ∧ n ≤ 100000) (hI : LI S v a m oa p0 n ln W q) : ST N i23 S p0 a m oa k n ln W q (K_lw_law_1480 N i23 S v p0 a m oa (J (k : Int))) := by
  obtain ⟨s, hw, hR0, hd0, hO⟩ := hI
  obtain ⟨⟨h, c, g, t, p, M⟩, sv, ps, re, ca, ch⟩ := s
  have hR : cR S v a (h, c, g, t, p, M) sv ps re ca ch q := hR0
  have hd : dR S v m (h, c, g, t, p, M) sv ps re ca ch := hd0
  have hs : stV h c g t p M := cR_V hR
  have hp0 : kin S p0 = some (11, n) := hO.2.2.2.2.1
  obtain ⟨x1, e1, b1⟩ := sc_ar (gi v p0 (Int32.toNatClampNeg (J (k : Int) + J 1)))
  have v1 : vp_in (J (k : Int) + J 1) (alen S p0) := sc_in (j := 1) hp0 hk (by decide)
  obtain ⟨o, ho⟩ : ∃ o : Nat ⊕ Int, o = (rgO 1 100000 x1 (gpZ t p (h 0 + x1) g (h 0) 0)) := ⟨_, rfl⟩
  have hU : F_gc_longestSilence N a (J x1) S v = some (rC (fun _ => 0) o) := by rw [ho]; exact gc_longestSilence (by omega) hR b1
  have hC : ∀ c, o = .inl c → c = 1 := by
    intro c hc
    rw [ho] at hc
    unfold rgO at hc
    (repeat' split at hc) <;> cases hc <;> decide
  have hB0 : ∀ c, o = .inl c → 0 < c ∧ c < 100 := fun c hc => by have := hC c hc; omega
  have hB : thB (liO o ((h, c, g, t, p, M), sv, ps, re, ca, ch)) := thB_li hB0
  obtain ⟨S', v', l1, l2⟩ := lw_C (s := ((h, c, g, t, p, M), sv, ps, re, ca, ch)) (thr := (fun k0 => if k0 = 0 then lt (skip S 6) fun S6 => some (((J 1), S6, v)) else none)) hw hR0 hd0 hO hU (fun c hc => by rcases hC c hc with rfl <;> rfl) hB0
  have hd1 : dR S' v' m (h, c, g, t, p, M) sv ps re ca ch := l2.2.2.1
  have f1 : F_lw_longestSilence N a (J x1) oa S v = some (J (uThr (liO o ((h, c, g, t, p, M), sv, ps, re, ca, ch))), S', v') := by
    unfold F_lw_longestSilence
    rw [grd_true _ hR.1.1.1]
    exact l1
  obtain ⟨u, t1, t2⟩ := law_tail (N := N) (i23 := i23) (p4 := J (k : Int)) (mF := F_gm_longestSilence N m (J x1) S' v') l2 hB (UM_QM l2.2.2.1 hs (by rw [ho]; exact gm_longestSilence (by omega) hd1 hs b1))
  refine ⟨S', u, ?_, t2, l2.2.2.2.2.1⟩
  have hp' : kin S' p0 = some (11, n) := l2.2.2.2.1.2.2.2.2.1
  have w1 : vp_in (J (k : Int) + J 1) (alen S' p0) := sc_in (j := 1) hp' hk (by decide)
  have y1 : gi v' p0 (Int32.toNatClampNeg (J (k : Int) + J 1)) = J x1 := by rw [gi_rw, l2.2.2.2.2.2.1]; exact e1
  unfold K_lw_law_1480
  rw [grd_true _ (sc_P hp0), grd_true _ v1, e1, f1]
  simp only [Option.bind_some]
  rw [grd_true _ (sc_P hp'), grd_true _ w1, y1]
  exact t1
theorem st_apart (hF : flO) (hN : 7000000 ≤ N) (hq : q ≤ 1000) (hk : k + 5 < n ∧ n ≤ 100000) (hI : LI S v a m oa p0 n ln W q) : ST N i23 S p0 a m oa k n ln W q (K_lw_law_1536 N i23 S v p0 a m oa (J (k : Int))) := by
  obtain ⟨s, hw, hR0, hd0, hO⟩ := hI
  obtain ⟨⟨h, c, g, t, p, M⟩, sv, ps, re, ca, ch⟩ := s
  have hR : cR S v a (h, c, g, t, p, M) sv ps re ca ch q := hR0
  have hd : dR S v m (h, c, g, t, p, M) sv ps re ca ch := hd0
  have hs : stV h c g t p M := cR_V hR
  have hp0 : kin S p0 = some (11, n) := hO.2.2.2.2.1
  obtain ⟨S', v', u, c1, m1, l1, r1, kp, t1, t2⟩ := law_D (mF := fun S w => F_gm_apart N m S w) hw hR0 hd0 hO (UD_QD (s := ((h, c, g, t, p, M), sv, ps, re, ca, ch)) (gc_apart (by omega) hw hR)) (fun S1 u hd1 => UM_QM hd1 hs (gm_apart (by omega) hd1 hs))
  try dsimp only at m1
  refine ⟨S', u, ?_, t1, t2⟩
  unfold K_lw_law_1536
  rw [grd_true _ hR.1.1.1, c1]
  simp only [Option.bind_some]
  rw [grd_true _ l1.1, m1]
  simp only [Option.bind_some, if_true]
end LAWCALLS
