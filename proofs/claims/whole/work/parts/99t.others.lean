/-! The law: what stands beside both objects. -/
section OTHERS
variable {S S' : shp} {v w v' u : vl} {a b m N n q r len r' len' l k o p0 : Nat} {ln : Nat → Nat} {W : Nat → Nat → Int} {s now : sta} {sv : Option sta} {ps : List sta} {re ca ch : Int}
theorem dtT_exN (hT : dtT S v a) (hw : wfS S) (h : exN a k l S v S' v') : dtT S' v' a := by
  obtain ⟨t1, t2, t3, t5⟩ := hT
  obtain ⟨-, x2, x3, x4, -⟩ := h
  have n1 := kin_lt hw t1
  have n2 := kin_lt hw t2
  refine ⟨by rw [x4, x3 _ n1]; exact t1, by rw [x4, x3 _ n2]; exact t2, by rw [x4]; exact t3, fun q hq => ?_⟩
  rw [x4, (x2 _ (Or.inl t3.2) n2).1, (x2 _ (Or.inl t3.1) n1).1]
  exact t5 q hq
theorem BO_exN (hB : BO S v a m) (hL : gcL S a) (hm : mdL S m) (hw : wfS S) (ham : a + 84 ≤ m) (h : exN a k l S v S' v') : BO S' v' a m := by
  obtain ⟨X, r, len, ⟨k0, ⟨c1, c3⟩, g0, kr, hb, hbt, ht⟩, ho, hM, hA⟩ := hB
  have hx := exN_L h
  obtain ⟨-, x2, x3, x4, -⟩ := h
  have hr := ho.2
  have e9 := x2 (a + 9) (by omega) (kin_lt hw k0)
  have er := x2 r (by omega) (kin_lt hw kr)
  have rr := fun x (hx' : m ≤ x ∧ x < m + 8) => mrow_exL hm hw ham hx hx'
  have kr' : kin S' r = some (2, len) := by rw [x3 _ (kin_lt hw kr)]; exact kr
  refine ⟨X, r, len, ⟨by rw [x3 _ (kin_lt hw k0)]; exact k0, ⟨by rw [e9.1]; exact c1, by rw [e9.1]; exact c3⟩, by rw [e9.2]; exact g0, kr', hb, by rw [er.1]; exact hbt, fun i hi => by rw [er.1]; exact ht i hi⟩, ⟨kr', hr⟩, ⟨by rw [rr m (by omega)]; exact hM.1, hM.2.1, fun i hi => by rw [rr (m + 7) (by omega)]; exact hM.2.2 i hi⟩, hA⟩
/-- constants, texts, prints, the law's own -/
def OT (S : shp) (v : vl) (a m o p0 n : Nat) (ln : Nat → Nat) (W : Nat → Nat → Int) : Prop := (tPs S v a ∧ wdS S v a ln W ∧ dtT S v a ∧ kad S 0 < a) ∧ IR v a m ∧ BO S v a m ∧ (a + 84 ≤ m ∧ kin S o = some (3, 1) ∧ m + 8 ≤ o) ∧ kin S p0 = some (11, n) ∧ p0 < a
theorem OT_exN (hO : OT S v a m o p0 n ln W) (hL : gcL S a) (hm : mdL S m) (hw : wfS S) (h : exN a k l S v S' v') (hI : IR v' a m) : OT S' v' a m o p0 n ln W := by
  obtain ⟨⟨t1, t2, t3, t4⟩, -, hB, ⟨h1, h2, h3⟩, h4, h5⟩ := hO
  have hx := exN_L h
  have x3 := h.2.2.1
  exact ⟨⟨tPs_exL t1 hw hx, wdS_exL t2 hw hx, dtT_exN t3 hw h, by rw [h.2.2.2.1]; exact t4⟩, hI, BO_exN hB hL hm hw h1 h, ⟨h1, by rw [x3 _ (kin_lt hw h2)]; exact h2, h3⟩, by rw [x3 _ (kin_lt hw h4)]; exact h4, h5⟩
theorem OT_exg (hO : OT S v a m o p0 n ln W) (hL : gcL S a) (hm : mdL S m) (hw : wfS S) (h : exg a k l S v S' v') : OT S' v' a m o p0 n ln W := by
  have hI := hO.2.1
  have ham := hO.2.2.2.1.1
  have x2 := h.2.1
  have rr := fun x (hx' : m ≤ x ∧ x < m + 8) => mrow_exL hm hw ham (exL_exg h) hx'
  refine OT_exN hO hL hm hw (exN_exg h) (IR_rows hI ?_ ?_ (rr _ (by omega)) (fun k _ _ => by rw [rr m (by omega)]))
  · exact (x2 _ (by omega) (by omega) (kin_lt hw hL.2.1.1)).1
  · exact (x2 _ (by omega) (by omega) (kin_lt hw hL.2.1.2.2.1)).1
/-- the model's rows moved -/
theorem OT_mod (hO : OT S v a m o p0 n ln W) (hm : mdL S m) (h : fri m 8 v v') (hI : IR v' a m) (hM : ∀ k, k = 29 → rw v' m k = rw v m k) (h7 : rw v' (m + 7) = rw v (m + 7)) : OT S v' a m o p0 n ln W := by
  obtain ⟨⟨t1, t2, t3, t4⟩, -, ⟨X, r, len, ⟨k0, ⟨c1, c3⟩, g0, kr, hb, hbt, ht⟩, ho, ⟨m1, m2, m3⟩, hA⟩, ⟨h1, h2, h3⟩, h4, h5⟩ := hO
  have hr := ho.2
  have rl : ∀ x, x < m → rw v' x = rw v x := fun x hx => h.2 x (by omega)
  obtain ⟨y1, y2, y3⟩ := t1
  obtain ⟨u1, u2, u3, u5⟩ := t3
  have er : rw v' r = rw v r := h.2 r (by omega)
  refine ⟨⟨⟨y1, y2, fun i hi => by rw [rl _ (by omega)]; exact y3 i hi⟩, wdS_eq t2 (fun b hb => rl b (by omega)), ⟨u1, u2, u3, fun q hq => by rw [rl _ (by omega), rl _ (by omega)]; exact u5 q hq⟩, t4⟩, hI, ⟨X, r, len, ⟨k0, ⟨by rw [rl _ (by omega)]; exact c1, by rw [rl _ (by omega)]; exact c3⟩, g0, kr, hb, by rw [er]; exact hbt, fun i hi => by rw [er]; exact ht i hi⟩, ho, ⟨by rw [hM 29 rfl]; exact m1, m2, fun i hi => by rw [h7]; exact m3 i hi⟩, hA⟩, ⟨h1, h2, h3⟩, h4, h5⟩
theorem mch_fri (h : mch m v v') : fri m 8 v v' := ⟨h.1, fun x hx => h.2.1 x (by omega)⟩
theorem OT_mch (hO : OT S v a m o p0 n ln W) (hm : mdL S m) (h : mch m v v') : OT S v' a m o p0 n ln W := by
  have ham := hO.2.2.2.1.1
  refine OT_mod hO hm (mch_fri h) (IR_rows hO.2.1 (h.2.1 _ (by omega)) (h.2.1 _ (by omega)) (h.2.1 _ (by omega)) (fun k h1 h2 => h.2.2 k (by omega))) (fun k hk => h.2.2 k (by omega)) (h.2.1 _ (by omega))
theorem cR_mod (hR : cR S v a now sv ps re ca ch q) (hm : mdL S m) (ham : a + 84 ≤ m) (h : fri m 8 v v') : cR S v' a now sv ps re ca ch q := cR_hi hR h ham (mk_kin hm)
/-- all that holds between two calls; the state's parts s -/
def LI (S : shp) (v : vl) (a m o p0 n : Nat) (ln : Nat → Nat) (W : Nat → Nat → Int) (q : Nat) : Prop := ∃ s : full, wfS S ∧ cX S v a s q ∧ dX S v m s ∧ OT S v a m o p0 n ln W
/-- what a call may cost -/
def gw (S S' : shp) : Prop := (cn S ≤ cn S' ∧ cn S' ≤ cn S + 21) ∧ cz S ≤ cz S' ∧ cz S' ≤ cz S + 406
theorem gw_exg (h : exg a k l S v S' v') (hk : k ≤ 20) (hl : l ≤ 400) : gw S S' := by
  obtain ⟨-, -, -, -, -, h6, h7⟩ := h
  unfold gw
  omega
theorem gw_0 : gw S S := by
  unfold gw
  omega
theorem gw_skip : gw S (skip S 6) := by
  have e1 : cn (skip S 6) = cn S + 1 := rfl
  have e2 : cz (skip S 6) = cz S + 6 := rfl
  unfold gw
  omega
theorem wf_skip (hw : wfS S) : wfS (skip S k) := fun x hx => hw x (by have e : nxt (skip S k) = nxt S + 1 := rfl; omega)
theorem cR_skip : cR (skip S k) v a now sv ps re ca ch q = cR S v a now sv ps re ca ch q := rfl
theorem dR_skip : dR (skip S k) v m now sv ps re ca ch = dR S v m now sv ps re ca ch := rfl
theorem OT_skip : OT (skip S k) v a m o p0 n ln W = OT S v a m o p0 n ln W := rfl
theorem cR_sl {x : Int64} {i : Nat} : cR S (sl v o i x) a now sv ps re ca ch q = cR S v a now sv ps re ca ch q := rfl
theorem dR_sl {x : Int64} {i : Nat} : dR S (sl v o i x) m now sv ps re ca ch = dR S v m now sv ps re ca ch := rfl
theorem OT_sl {x : Int64} {i b : Nat} : OT S (sl v b i x) a m o p0 n ln W = OT S v a m o p0 n ln W := rfl
/-- behind a change on both sides -/
theorem LI_ch {s : full} (hw : wfS S) (hR : cX S v a s q) (hd : dX S v' m s) (hO : OT S v a m o p0 n ln W) (hm : mch m v v') : LI S v' a m o p0 n ln W q :=
  ⟨s, hw, cR_mod hR hd.1 hO.2.2.2.1.1 (mch_fri hm), hd, OT_mch hO hd.1 hm⟩
/-- behind a question on both sides -/
theorem LI_q {s : full} {x : Int} (hw : wfS S) (hR : cX S v a s q) (hd : dX S v m s) (hO : OT S v a m o p0 n ln W) (hm : mqt m v v' x) : LI S v' a m o p0 n ln W q :=
  LI_ch hw hR (dR_mqt hd hR.2.1.2 hm) hO (mch_mqt hm)
end OTHERS
