/-! The class's forecasts. -/
section FORECAST
/-- whole calls of the class: row a, and its states, alone have changed -/
def exg (a k l : Nat) (S : shp) (v : vl) (S' : shp) (v' : vl) : Prop := (∀ x, x < nxt S → v'.2 x = v.2 x) ∧ (∀ x, x ≠ a → (x < a + 11 ∨ a + 84 ≤ x) → x < nxt S → rw v' x = rw v x ∧ ∀ j, gr S' x j = gr S x j) ∧ (∀ x, x < nxt S → kin S' x = kin S x) ∧ kad S' = kad S ∧ bas S' = bas S ∧ (cn S ≤ cn S' ∧ cn S' ≤ cn S + k) ∧ (cz S ≤ cz S' ∧ cz S' ≤ cz S + l)
theorem exg_exi {a b k l k' l' : Nat} {S S' : shp} {v v' : vl} (h : exi b 6 k l S v S' v') (hb : a + 11 ≤ b ∧ b + 6 ≤ a + 84) (hk : k ≤ k') (hl : l ≤ l') : exg a k' l' S v S' v' := by
  obtain ⟨a1, a2, a3, a4, a5, a6, a7, -⟩ := h
  exact ⟨a1, fun x _ h1 h2 => a2 x (by omega) h2, a3, a4, a5, by omega, by omega⟩
theorem exg_tr {a k l k' l' : Nat} {S S1 S2 : shp} {v v1 v2 : vl} (h1 : exg a k l S v S1 v1) (h2 : exg a k' l' S1 v1 S2 v2) : exg a (k + k') (l + l') S v S2 v2 := by
  obtain ⟨a1, a2, a3, a4, a5, a6, a7⟩ := h1
  obtain ⟨c1, c2, c3, c4, c5, c6, c7⟩ := h2
  have hn : nxt S ≤ nxt S1 := by unfold nxt; omega
  refine ⟨fun x hx => (c1 x (by omega)).trans (a1 x hx), fun x h0 h1 h2 => ?_, fun x hx => (c3 x (by omega)).trans (a3 x hx), c4.trans a4, c5.trans a5, by omega, by omega⟩
  obtain ⟨x1, x2⟩ := a2 x h0 h1 h2
  obtain ⟨y1, y2⟩ := c2 x h0 h1 (by omega)
  exact ⟨y1.trans x1, fun j => (y2 j).trans (x2 j)⟩
theorem exg_mono {a k l k' l' : Nat} {S S' : shp} {v v' : vl} (h : exg a k l S v S' v') (hk : k ≤ k') (hl : l ≤ l') : exg a k' l' S v S' v' := by
  obtain ⟨a1, a2, a3, a4, a5, a6, a7⟩ := h
  exact ⟨a1, a2, a3, a4, a5, by omega, by omega⟩
theorem exg_refl {a : Nat} {S : shp} {v : vl} : exg a 0 0 S v S v := ⟨fun _ _ => rfl, fun _ _ _ _ => ⟨rfl, fun _ => rfl⟩, fun _ _ => rfl, rfl, rfl, ⟨Nat.le_refl _, Nat.le_refl _⟩, ⟨Nat.le_refl _, Nat.le_refl _⟩⟩
theorem exg_wr {a : Nat} {S : shp} {v : vl} {f : Nat → Int32} : exg a 0 0 S v S (wr v a f) := ⟨fun _ _ => rfl, fun x h0 _ _ => ⟨rw_wr_ne h0, fun _ => rfl⟩, fun _ _ => rfl, rfl, rfl, ⟨Nat.le_refl _, Nat.le_refl _⟩, ⟨Nat.le_refl _, Nat.le_refl _⟩⟩
/-- outcomes of calls -/
def QC (F : Option (Nat ⊕ (Int32 × shp × vl))) (f : Nat → Nat) (o : Nat ⊕ Int) (P : shp → vl → Prop) : Prop := match o with
  | .inl c => F = some (.inl (f c))
  | .inr x => ∃ S' v', F = some (.inr (J x, S', v')) ∧ P S' v'
def QD (F : Option (Int32 × shp × vl)) (x : Int) (P : shp → vl → Prop) : Prop := ∃ S' v', F = some (J x, S', v') ∧ P S' v'
/-- behind a call of the class -/
def PC (a : Nat) (now : sta) (sv : Option sta) (ps : List sta) (re ca ch : Int) (q : Nat) (S : shp) (v : vl) (S' : shp) (v' : vl) : Prop := wfS S' ∧ cR S' v' a now sv ps re ca ch q ∧ exg a 20 400 S v S' v'
variable {S : shp} {v : vl} {a m N q : Nat} {h c g t p : Nat → Int} {M : Nat → Nat → Int} {sv : Option sta} {ps : List sta} {re ca ch : Int}
theorem scr_P {S' : shp} {v' : vl} {b k l : Nat} (hR : cR S v a (h, c, g, t, p, M) sv ps re ca ch q) (hw : wfS S) (hb : b = a + 17 ∨ b = a + 23) (hs : stL S' b) (he : exi b 6 k l S v S' v') (hk : k ≤ 20) (hl : l ≤ 400) : PC a (h, c, g, t, p, M) sv ps re ca ch q S v S' v' :=
  ⟨exi_wf he hw, cR_exi hR hw (by omega) hs he, exg_exi he (by omega) hk hl⟩
theorem fresh_R {b : Nat} (hN : 100 ≤ N) (hw : wfS S) (hR : cR S v a (h, c, g, t, p, M) sv ps re ca ch q) (hb : b = a + 17 ∨ b = a + 23) :
    ∃ S' v', F_gc_fresh N a b S v = some (some b, S', v') ∧ stA S' v' b (h, c, g, t, p, M) ∧ cR S' v' a (h, c, g, t, p, M) sv ps re ca ch q ∧ wfS S' ∧ exi b 6 0 0 S v S' v' := by
  obtain ⟨S', v', s1, s2, s3⟩ := gc_fresh (N := N) hN hw hR.1 hR.2.1.1 hR.2.1.2 hb
  exact ⟨S', v', s1, s2, cR_exi hR hw (by omega) s2.1.1 s3, exi_wf s3 hw, s3⟩
theorem gr67 (hL : gcL S a) : gr S a 6 = some (a + 17) ∧ gr S a 7 = some (a + 23) ∧ gr S a 8 = some (a + 29) ∧ gr S a 10 = some (a + 35) := ⟨hL.1.2.2.2.2.1, hL.1.2.2.2.2.2.1, hL.1.2.2.2.2.2.2.1, hL.1.2.2.2.2.2.2.2⟩
theorem gc_edgesComing {n : Int} (hN : 7000000 ≤ N) (hw : wfS S) (hR : cR S v a (h, c, g, t, p, M) sv ps re ca ch q) (hn : 0 ≤ n ∧ n ≤ 100000) :
    QD (F_gc_edgesComing N a (J n) S v) (sgK t p (3 * (h 0 + n) + 2) g 2 - g 2) (PC a (h, c, g, t, p, M) sv ps re ca ch q S v) := by
  obtain ⟨k0, g5, n0, r6, n1, r7, n2, hh, hc, hg⟩ := cR_now hR
  obtain ⟨S1, v1, s1, s2, R1, w1, x1⟩ := fresh_R (N := N) (by omega) hw hR (Or.inl rfl)
  obtain ⟨k0', g5', n0', r6', n1', r7', n2', hh', hc', hg'⟩ := cR_now R1
  obtain ⟨b0, b6, b1, b7, bl, b8, b5⟩ := id s2.1.1
  have hV := cR_V hR
  have hv0 := hV.1.1
  obtain ⟨f, p1, p2, p3⟩ := sgW_passTo (T := h 0 + n) (show 100 ≤ N by omega) s2.1.2.2.2 hV.2.2.1 (by omega)
  refine ⟨S1, wr v1 (a + 17 + 2) f, ?_, scr_P hR hw (Or.inl rfl) s2.1.1 (exi_tr x1 (exi_fri (fri_wr (by omega)))) (by decide) (by decide)⟩
  unfold F_gc_edgesComing
  simp only [k0, grd_pos, (gr67 hR.1).1, Option.bind_some, s1, oc2, b0, b7, g5', n0', bl.1, gi_x, hh' 0 (by decide)]
  rw [← J_add, p1]
  simp only [Option.bind_some, r7', n2', grd_pos, gi_x, rw_wr, rw_wr_ne (show a + 11 + 2 ≠ a + 17 + 2 by omega), p2 2 (by decide), hg' 2 (by decide), ← J_sub]
/-- what comes in so many ticks -/
def inO (n lo : Int) (x : Int) : Nat ⊕ Int := if lo ≤ n ∧ n ≤ 100000 then .inr x else .inl 1
theorem gc_edgesIn {n : Int} (hN : 7000000 ≤ N) (hw : wfS S) (hR : cR S v a (h, c, g, t, p, M) sv ps re ca ch q) (hn : -2147483648 ≤ n ∧ n < 2147483648) :
    QC (F_gc_edgesIn N a (J n) S v) (fun _ => 0) (inO n 0 (sgK t p (3 * (h 0 + n) + 2) g 2 - g 2)) (PC a (h, c, g, t, p, M) sv ps re ca ch q S v) := by
  obtain ⟨k0, -⟩ := cR_now hR
  unfold F_gc_edgesIn inO
  rw [gc_within hn (by decide) (by decide)]
  by_cases z : 0 ≤ n ∧ n ≤ 100000
  · obtain ⟨S', v', e, hP⟩ := gc_edgesComing hN hw hR z
    rw [if_pos z, if_pos z, bx_r, grd_true _ k0, e]
    exact ⟨S', v', rfl, hP⟩
  · rw [if_neg z, if_neg z, bx_l]
    rfl
theorem gc_outputsIn {n : Int} (hN : 7000000 ≤ N) (hw : wfS S) (hR : cR S v a (h, c, g, t, p, M) sv ps re ca ch q) (hn : -2147483648 ≤ n ∧ n < 2147483648) :
    QC (F_gc_outputsIn N a (J n) S v) (fun _ => 0) (inO n 0 (sgK t p (3 * (h 0 + n) + 2) g 3 - g 3)) (PC a (h, c, g, t, p, M) sv ps re ca ch q S v) := by
  obtain ⟨k0, g5, n0, r6, n1, r7, n2, hh, hc, hg⟩ := cR_now hR
  unfold F_gc_outputsIn inO
  rw [gc_within hn (by decide) (by decide)]
  by_cases z : 0 ≤ n ∧ n ≤ 100000
  · obtain ⟨S1, v1, s1, s2, R1, w1, x1⟩ := fresh_R (N := N) (by omega) hw hR (Or.inl rfl)
    obtain ⟨k0', g5', n0', r6', n1', r7', n2', hh', hc', hg'⟩ := cR_now R1
    obtain ⟨b0, b6, b1, b7, bl, b8, b5⟩ := id s2.1.1
    have hV := cR_V hR
    have hv0 := hV.1.1
    obtain ⟨f, p1, p2, p3⟩ := sgW_passTo (T := h 0 + n) (show 100 ≤ N by omega) s2.1.2.2.2 hV.2.2.1 (by omega)
    rw [if_pos z, if_pos z, bx_r]
    refine ⟨S1, wr v1 (a + 17 + 2) f, ?_, scr_P hR hw (Or.inl rfl) s2.1.1 (exi_tr x1 (exi_fri (fri_wr (by omega)))) (by decide) (by decide)⟩
    simp only [k0, grd_pos, (gr67 hR.1).1, Option.bind_some, s1, oc2, b0, b7, g5', n0', bl.1, gi_x, hh' 0 (by decide)]
    rw [← J_add, p1]
    simp only [Option.bind_some, r7', n2', grd_pos, gi_x, rw_wr, rw_wr_ne (show a + 11 + 2 ≠ a + 17 + 2 by omega), p2 3 (by decide), hg' 3 (by decide), ← J_sub]
  · rw [if_neg z, if_neg z, bx_l]
    rfl
theorem gc_clocksIn {n : Int} (hN : 7000000 ≤ N) (hw : wfS S) (hR : cR S v a (h, c, g, t, p, M) sv ps re ca ch q) (hn : -2147483648 ≤ n ∧ n < 2147483648) :
    QC (F_gc_clocksIn N a (J n) S v) (fun _ => 0) (inO n 0 (ckK (h 0 + n) c 5 - c 5)) (PC a (h, c, g, t, p, M) sv ps re ca ch q S v) := by
  obtain ⟨k0, g5, n0, r6, n1, r7, n2, hh, hc, hg⟩ := cR_now hR
  unfold F_gc_clocksIn inO
  rw [gc_within hn (by decide) (by decide)]
  by_cases z : 0 ≤ n ∧ n ≤ 100000
  · obtain ⟨S1, v1, s1, s2, R1, w1, x1⟩ := fresh_R (N := N) (by omega) hw hR (Or.inl rfl)
    obtain ⟨k0', g5', n0', r6', n1', r7', n2', hh', hc', hg'⟩ := cR_now R1
    obtain ⟨b0, b6, b1, b7, bl, b8, b5⟩ := id s2.1.1
    have hV := cR_V hR
    have hv0 := hV.1.1
    obtain ⟨f, p1, p2⟩ := ckW_passTo (T := h 0 + n) hN b1 s2.1.2.2.1 hV.2.1 (by omega)
    rw [if_pos z, if_pos z, bx_r]
    refine ⟨S1, wr v1 (a + 17 + 1) f, ?_, scr_P hR hw (Or.inl rfl) s2.1.1 (exi_tr x1 (exi_fri (fri_wr (by omega)))) (by decide) (by decide)⟩
    simp only [k0, grd_pos, (gr67 hR.1).1, Option.bind_some, s1, oc2, b0, b6, g5', n0', b1, gi_x, hh' 0 (by decide)]
    rw [← J_add, p1]
    simp only [Option.bind_some, r6', n1', grd_pos, gi_x, rw_wr, rw_wr_ne (show a + 11 + 1 ≠ a + 17 + 1 by omega), p2 5 (by decide), hc' 5 (by decide), ← J_sub]
  · rw [if_neg z, if_neg z, bx_l]
    rfl
theorem gc_driftIn {n : Int} (hN : 7000000 ≤ N) (hw : wfS S) (hR : cR S v a (h, c, g, t, p, M) sv ps re ca ch q) (hn : -2147483648 ≤ n ∧ n < 2147483648) :
    QC (F_gc_driftIn N a (J n) S v) (fun _ => 0) (inO n 0 (ckK (h 0 + n) c 1)) (PC a (h, c, g, t, p, M) sv ps re ca ch q S v) := by
  obtain ⟨k0, g5, n0, r6, n1, r7, n2, hh, hc, hg⟩ := cR_now hR
  unfold F_gc_driftIn inO
  rw [gc_within hn (by decide) (by decide)]
  by_cases z : 0 ≤ n ∧ n ≤ 100000
  · obtain ⟨S1, v1, s1, s2, R1, w1, x1⟩ := fresh_R (N := N) (by omega) hw hR (Or.inl rfl)
    obtain ⟨k0', g5', n0', r6', n1', r7', n2', hh', hc', hg'⟩ := cR_now R1
    obtain ⟨b0, b6, b1, b7, bl, b8, b5⟩ := id s2.1.1
    have hV := cR_V hR
    have hv0 := hV.1.1
    obtain ⟨f, p1, p2⟩ := ckW_passTo (T := h 0 + n) hN b1 s2.1.2.2.1 hV.2.1 (by omega)
    rw [if_pos z, if_pos z, bx_r]
    refine ⟨S1, wr v1 (a + 17 + 1) f, ?_, scr_P hR hw (Or.inl rfl) s2.1.1 (exi_tr x1 (exi_fri (fri_wr (by omega)))) (by decide) (by decide)⟩
    simp only [k0, grd_pos, (gr67 hR.1).1, Option.bind_some, s1, oc2, b0, b6, g5', n0', b1, gi_x, hh' 0 (by decide)]
    rw [← J_add, p1]
    simp only [Option.bind_some, grd_pos, gi_x, rw_wr, p2 1 (by decide)]
  · rw [if_neg z, if_neg z, bx_l]
    rfl
/-- edges for 1000000 ticks -/
def rtI (x n : Int) : Int32 := Int64.toInt32 (Int32.toInt64 (J x) * JL 1000000 / Int32.toInt64 (J n))
theorem gc_trueRate {n : Int} (hN : 7000000 ≤ N) (hw : wfS S) (hR : cR S v a (h, c, g, t, p, M) sv ps re ca ch q) (hn : -2147483648 ≤ n ∧ n < 2147483648) :
    QC (F_gc_trueRate N a (J n) S v) (fun _ => 0) (inO n 1 (rtI (sgK t p (3 * (h 0 + n) + 2) g 2 - g 2) n).toInt) (PC a (h, c, g, t, p, M) sv ps re ca ch q S v) := by
  obtain ⟨k0, -⟩ := cR_now hR
  unfold F_gc_trueRate inO
  rw [gc_within hn (by decide) (by decide)]
  by_cases z : 1 ≤ n ∧ n ≤ 100000
  · obtain ⟨S', v', e, hP⟩ := gc_edgesComing hN hw hR (show 0 ≤ n ∧ n ≤ 100000 by omega)
    have hne : ¬ Int32.toInt64 (J n) = 0 := fun y => by
      have h1 : (Int32.toInt64 (J n)).toInt = n := by rw [Int32.toInt_toInt64]; exact J_toInt (by omega) (by omega)
      have h0 : (0 : Int64).toInt = 0 := by decide
      rw [y, h0] at h1
      omega
    rw [if_pos z, if_pos z, bx_r, if_pos ((J_lt (by decide) (by omega)).mpr (by omega)), grd_true _ k0, e]
    simp only [Option.bind_some, lt_def]
    rw [grd_true _ hne]
    exact ⟨S', v', by rw [J_of]; rfl, hP⟩
  · rw [if_neg z, if_neg z, bx_l]
    rfl
theorem gc_nextOutput (hN : 7000000 ≤ N) (hR : cR S v a (h, c, g, t, p, M) sv ps re ca ch q) : F_gc_nextOutput N a S v = some (J (oN t p 0 g)) := by
  obtain ⟨k0, g5, n0, r6, n1, r7, n2, hh, hc, hg⟩ := cR_now hR
  have e : F_sg_timeOfOutput N (a + 11 + 2) (J 1) S v = some (J (oN t p 0 g)) := sgW_timeOfOutput (n := 0) (by omega) (cR_W hR) (cR_V hR).2.2.1 (by decide)
  unfold F_gc_nextOutput
  simp only [k0, g5, n0, r7, n2, grd_pos, Option.bind_some, e]
def numO (n x : Int) : Nat ⊕ Int := if 1 ≤ n ∧ n ≤ 1000 then .inr x else .inl 1
theorem gc_timeOfEdge {n : Int} (hN : 7000000 ≤ N) (hR : cR S v a (h, c, g, t, p, M) sv ps re ca ch q) (hn : -2147483648 ≤ n ∧ n < 2147483648) : F_gc_timeOfEdge N a (J n) S v = some (rC (fun _ => 0) (numO n (eT t p n g))) := by
  obtain ⟨k0, g5, n0, r6, n1, r7, n2, hh, hc, hg⟩ := cR_now hR
  unfold F_gc_timeOfEdge numO
  rw [gc_within hn (by decide) (by decide)]
  by_cases z : 1 ≤ n ∧ n ≤ 1000
  · rw [if_pos z, if_pos z, bx_r]
    simp only [k0, g5, n0, r7, n2, grd_pos, Option.bind_some, sgW_timeAfter (show 100 ≤ N by omega) (cR_W hR) (cR_V hR).2.2.1 (show 1 ≤ n ∧ n ≤ 100000 by omega)]
    rfl
  · rw [if_neg z, if_neg z, bx_l]
    rfl
def tcZ (c : Nat → Int) (n : Int) : Int := if (tkN (n - 1).toNat c) 4 ≤ 2000000 then (tkN (n - 1).toNat c) 4 else -1
theorem gc_timeOfClock {n : Int} (hN : 7000000 ≤ N) (hw : wfS S) (hR : cR S v a (h, c, g, t, p, M) sv ps re ca ch q) (hn : -2147483648 ≤ n ∧ n < 2147483648) :
    QC (F_gc_timeOfClock N a (J n) S v) (fun _ => 0) (numO n (tcZ c n)) (PC a (h, c, g, t, p, M) sv ps re ca ch q S v) := by
  obtain ⟨k0, g5, n0, r6, n1, r7, n2, hh, hc, hg⟩ := cR_now hR
  unfold F_gc_timeOfClock numO
  rw [gc_within hn (by decide) (by decide)]
  by_cases z : 1 ≤ n ∧ n ≤ 1000
  · obtain ⟨S1, v1, s1, s2, R1, w1, x1⟩ := fresh_R (N := N) (by omega) hw hR (Or.inl rfl)
    obtain ⟨b0, b6, b1, b7, bl, b8, b5⟩ := id s2.1.1
    have hV := cR_V hR
    have hcV := hV.2.1
    obtain ⟨k, hk⟩ : ∃ k : Nat, n = ((k + 1 : Nat) : Int) := ⟨(n - 1).toNat, by omega⟩
    have hin := tkN_inv hcV.1 k
    have hb := hcV.2.1
    have hb0 := hcV.1.2.2.2.2.1
    obtain ⟨f, p1, p2⟩ := ckW_passEdges (n := k + 1) hN b1 s2.1.2.2.1 (ckV_rng hcV) hcV.1 (by show c 4 ≤ _; omega) (by show c 5 ≤ _; omega) (by omega)
    have e6 : f 6 = J ((tkN k c) 4) := p2 6 (by decide)
    have tk : (n - 1).toNat = k := by omega
    rw [if_pos z, if_pos z, bx_r]
    refine ⟨S1, wr v1 (a + 17 + 1) f, ?_, scr_P hR hw (Or.inl rfl) s2.1.1 (exi_tr x1 (exi_fri (fri_wr (by omega)))) (by decide) (by decide)⟩
    simp only [k0, grd_pos, (gr67 hR.1).1, Option.bind_some, s1, oc2, b0, b6, b1]
    rw [hk, p1]
    simp only [Option.bind_some, gi_x, rw_wr, e6]
    unfold tcZ
    rw [← hk, tk]
    by_cases y : (tkN k c) 4 ≤ 2000000
    · rw [if_neg (fun x => by have := (J_lt (by decide) (by omega)).mp x; omega), if_pos y]
    · rw [if_pos ((J_lt (by decide) (by omega)).mpr (by omega)), if_neg y]
  · rw [if_neg z, if_neg z, bx_l]
    rfl
-- measurements that are forecast
def bySO (w x : Int) : Nat ⊕ Int := if 0 ≤ w ∧ w ≤ 7 then .inr x else .inl 1
theorem kpM_last {n : Int} {z : Nat → Int} (hn : 0 ≤ n ∧ n ≤ 20) : kpM n M z (kpN n - 1).toNat = z := by
  unfold kpM kpN
  by_cases y : n < 20
  · rw [if_pos y, if_pos y, if_pos (by omega)]
  · rw [if_neg y, if_neg y, if_pos (by decide)]
theorem kpM_V {n : Int} {z : Nat → Int} (hn : 0 ≤ n ∧ n ≤ 20) (hM : ∀ i : Nat, (i : Int) < n → msV (M i)) (hz : msV z) : ∀ i : Nat, (i : Int) < kpN n → msV (kpM n M z i) := by
  intro i hi
  unfold kpN at hi
  unfold kpM
  by_cases y : n < 20
  · rw [if_pos y] at hi ⊢
    split
    · exact hz
    · exact hM i (by omega)
  · rw [if_neg y] at hi ⊢
    split
    · exact hz
    · exact hM (i + 1) (by omega)
theorem st_latest_kp {S : shp} {v : vl} {b : Nat} {h' : Nat → Int} {n w : Int} {z : Nat → Int} (hN : 100 ≤ N) (hl : stL S b) (h5 : rw v b 5 = J (kpN n)) (hn : 0 ≤ n ∧ n ≤ 20) (hm : msR S v (b + 5) (kpN n) (kpM n M z)) (hM : ∀ i : Nat, (i : Int) < n → msV (M i)) (hz : msV z) (hw : 0 ≤ w ∧ w ≤ 7) : F_st_latestNumber N b (J w) S v = some (J (mN z w)) := by
  have hk : 1 ≤ kpN n ∧ kpN n ≤ 20 := by unfold kpN; split <;> omega
  have := st_latest (h := fun _ => kpN n) (M := kpM n M z) hN hl h5 hk hm (kpM_V hn hM hz) hw
  rw [this]
  show some (J (mN (kpM n M z (kpN n - 1).toNat) w)) = _
  rw [kpM_last hn]
theorem gc_byGate {w : Int} (hN : 7000000 ≤ N) (hw : wfS S) (hR : cR S v a (h, c, g, t, p, M) sv ps re ca ch q) (hn : -2147483648 ≤ w ∧ w < 2147483648) :
    QC (F_gc_byGate N a (J w) S v) (fun _ => 0) (bySO w (fG h c g t p w)) (PC a (h, c, g, t, p, M) sv ps re ca ch q S v) := by
  obtain ⟨k0, g5, n0, r6, n1, r7, n2, hh, hc, hg⟩ := cR_now hR
  unfold F_gc_byGate bySO
  rw [gc_within hn (by decide) (by decide)]
  by_cases z : 0 ≤ w ∧ w ≤ 7
  · obtain ⟨S1, v1, s1, s2, R1, w1, x1⟩ := fresh_R (N := N) (by omega) hw hR (Or.inl rfl)
    obtain ⟨b0, -⟩ := id s2.1.1
    have hV := cR_V hR
    obtain ⟨y1, y2⟩ := st_gate (G := (h 1).toNat) hN w1 s2.1 s2.2 hV.2.1 hV.2.2.1 hV.1 (by show h 1 = _; have := hV.1.2.1; omega)
    rw [if_pos z, if_pos z, bx_r]
    simp only [k0, grd_pos, (gr67 hR.1).1, Option.bind_some, s1, oc2, b0]
    unfold fG
    by_cases y : (tkN (h 1).toNat c) 4 ≤ 2000000
    · obtain ⟨S2, v2, t1, t2, t3, t4⟩ := y1 y
      have x2 := exi_tr x1 t4
      have P := scr_P hR hw (Or.inl rfl) t2.1 x2 (by decide) (by decide)
      have e5 : rw v2 (a + 17) 5 = J (kpN (h 5)) := t2.2.1 5 (by decide)
      have L := st_latest_kp (w := w) (h' := h) (show 100 ≤ N by omega) t2.1 e5 hV.1.2.2.2.2 t3 hV.2.2.2.2.2 (gM_V hV.1 hV.2.1 hV.2.2.1 hV.2.2.2.1 hV.2.2.2.2.1 (gW_0.mpr y)) z
      rw [t1, if_pos (gW_0.mpr y)]
      simp only [Option.bind_some, if_true, (gr67 P.2.1.1).1, t2.1.1, grd_pos]
      rw [L]
      exact ⟨S2, v2, rfl, P⟩
    · obtain ⟨v2, t1, t2⟩ := y2 (show 2000000 < (tkN (h 1).toNat c) 4 by omega)
      have n10 : ¬ J 1 = J 0 := by decide
      rw [t1, if_neg (fun x => y (gW_0.mp x))]
      simp only [Option.bind_some, n10, if_false]
      exact ⟨S1, v2, rfl, scr_P hR hw (Or.inl rfl) s2.1.1 (exi_tr x1 (exi_fri t2)) (by decide) (by decide)⟩
  · rw [if_neg z, if_neg z, bx_l]
    rfl
theorem gc_byPeriod {w : Int} (hN : 7000000 ≤ N) (hw : wfS S) (hR : cR S v a (h, c, g, t, p, M) sv ps re ca ch q) (hn : -2147483648 ≤ w ∧ w < 2147483648) :
    QC (F_gc_byPeriod N a (J w) S v) (fun _ => 0) (bySO w (fP h c g t p w)) (PC a (h, c, g, t, p, M) sv ps re ca ch q S v) := by
  obtain ⟨k0, g5, n0, r6, n1, r7, n2, hh, hc, hg⟩ := cR_now hR
  unfold F_gc_byPeriod bySO
  rw [gc_within hn (by decide) (by decide)]
  by_cases z : 0 ≤ w ∧ w ≤ 7
  · obtain ⟨S1, v1, s1, s2, R1, w1, x1⟩ := fresh_R (N := N) (by omega) hw hR (Or.inr rfl)
    obtain ⟨b0, -⟩ := id s2.1.1
    have hV := cR_V hR
    obtain ⟨y1, y2, y3⟩ := st_period (G := (h 2).toNat) hN w1 s2.1 s2.2 hV.2.1 hV.2.2.1 hV.1 (by show h 2 = _; have := hV.1.2.2.1; omega)
    rw [if_pos z, if_pos z, bx_r]
    simp only [k0, grd_pos, (gr67 hR.1).2.1, Option.bind_some, s1, oc2, b0]
    unfold fP
    by_cases y : pW h c g t p = 0
    · obtain ⟨o1, o2⟩ := pW_0.mp y
      obtain ⟨S2, v2, t1, t2, t3, t4⟩ := y1 o1 o2
      have x2 := exi_tr x1 t4
      have P := scr_P hR hw (Or.inr rfl) t2.1 x2 (by decide) (by decide)
      have e5 : rw v2 (a + 23) 5 = J (kpN (h 5)) := t2.2.1 5 (by decide)
      have L := st_latest_kp (w := w) (h' := h) (show 100 ≤ N by omega) t2.1 e5 hV.1.2.2.2.2 t3 hV.2.2.2.2.2 (pM_V hV.1 hV.2.1 hV.2.2.1 y) z
      rw [t1, if_pos y]
      simp only [Option.bind_some, if_true, (gr67 P.2.1.1).2.1, t2.1.1, grd_pos]
      rw [L]
      exact ⟨S2, v2, rfl, P⟩
    · rw [if_neg y]
      have n10 : ¬ J 3 = J 0 := by decide
      by_cases o1 : oN t p (h 2).toNat g = -1
      · have t1 := y3 o1
        have nn : ¬ (if sgK t p 6000002 g 0 = 0 then J 2 else J 1) = J 0 := by split <;> decide
        rw [t1]
        simp only [Option.bind_some]
        rw [if_neg nn]
        exact ⟨S1, v1, rfl, scr_P hR hw (Or.inr rfl) s2.1.1 x1 (by decide) (by decide)⟩
      · by_cases o2 : cO t p (h 2).toNat c g = 0
        · obtain ⟨v2, t1, t2⟩ := y2 o1 o2
          rw [t1]
          simp only [Option.bind_some, n10, if_false]
          exact ⟨S1, v2, rfl, scr_P hR hw (Or.inr rfl) s2.1.1 (exi_tr x1 (exi_fri t2)) (by decide) (by decide)⟩
        · exact absurd (pW_0.mpr ⟨o1, o2⟩) y
  · rw [if_neg z, if_neg z, bx_l]
    rfl
end FORECAST
