/-! Changes: outcomes, and those that move on. -/
section MOVES
abbrev full : Type := sta × Option sta × List sta × Int × Int × Int
def cX (S : shp) (v : vl) (a : Nat) (s : full) (q : Nat) : Prop := cR S v a s.1 s.2.1 s.2.2.1 s.2.2.2.1 s.2.2.2.2.1 s.2.2.2.2.2 q
def PX (a : Nat) (s : full) (q : Nat) (S : shp) (v : vl) (S' : shp) (v' : vl) : Prop := wfS S' ∧ cX S' v' a s q ∧ exg a 20 400 S v S' v'
/-- a class's change that may throw; one that does not -/
def UC (F : Option (Nat ⊕ (Int32 × shp × vl))) (f : Nat → Nat) (o : Nat ⊕ (Int × full)) (a q : Nat) (S : shp) (v : vl) : Prop := match o with
  | .inl c => F = some (.inl (f c))
  | .inr y => ∃ S' v', F = some (.inr (J y.1, S', v')) ∧ PX a y.2 q S v S' v'
def UD (F : Option (Int32 × shp × vl)) (y : Int × full) (a q : Nat) (S : shp) (v : vl) : Prop := ∃ S' v', F = some (J y.1, S', v') ∧ PX a y.2 q S v S' v'
variable {S : shp} {v : vl} {a b m N q : Nat} {h c g t p X : Nat → Int} {M : Nat → Nat → Int} {now : sta} {sv : Option sta} {ps : List sta} {re ca ch : Int}
theorem cR_put {S' : shp} {v' : vl} {now' : sta} {k l : Nat} (hR : cR S v a now sv ps re ca ch q) (hw : wfS S) (he : exi (a + 11) 6 k l S v S' v') (h1 : stA S' v' (a + 11) now') (h2 : sV now') : wfS S' ∧ cR S' v' a now' sv ps re ca ch q := by
  obtain ⟨hL, -, hsv, ⟨n, p1, p2, p3, p4, p5, p6⟩, r2, r3, r4⟩ := hR
  have hB : isB a (a + 11) := Or.inr (Or.inl rfl)
  have hb' := gcL_st hL hB
  have k0 := hL.1.1
  have e0 : rw v' a = rw v a := exi_rw he hw k0 (by omega)
  refine ⟨exi_wf he hw, gcL_exi hL hw hB h1.1.1 he, ⟨h1, h2⟩, ?_, ⟨n, by rw [e0]; exact p1, p2, p3, by rw [e0]; exact p4, p5, fun i s his => ?_⟩, by rw [e0]; exact r2, by rw [e0]; exact r3, by rw [e0]; exact r4⟩
  · rcases hsv with ⟨z1, z2⟩ | ⟨s, z1, z2, z3, z4⟩
    · exact Or.inl ⟨z1, by rw [e0]; exact z2⟩
    · exact Or.inr ⟨s, z1, by rw [e0]; exact z2, stA_exi z3 hw hb' (by omega) he, z4⟩
  · obtain ⟨y1, y2⟩ := p6 i s his
    exact ⟨y1, stA_exi y2 hw hb' (by omega) he⟩
theorem cR_row {f : Nat → Int32} {re' ca' ch' : Int} (hR : cR S v a now sv ps re ca ch q) (f9 : f 9 = rw v a 9) (f11 : f 11 = rw v a 11) (f12 : f 12 = rw v a 12) (f2 : f 2 = J re') (f3 : f 3 = J ca') (f4 : f 4 = J ch') : cR S (wr v a f) a now sv ps re' ca' ch' q := by
  obtain ⟨hL, ⟨n1, n2⟩, hsv, ⟨n, p1, p2, p3, p4, p5, p6⟩, r2, r3, r4⟩ := hR
  have k0 := hL.1.1
  refine ⟨hL, ⟨stA_wra n1 k0 (by omega), n2⟩, ?_, ⟨n, by rw [rw_wr, f11]; exact p1, p2, p3, by rw [rw_wr, f12]; exact p4, p5, fun i s his => ?_⟩, by rw [rw_wr]; exact f2, by rw [rw_wr]; exact f3, by rw [rw_wr]; exact f4⟩
  · rcases hsv with ⟨z1, z2⟩ | ⟨s, z1, z2, z3, z4⟩
    · exact Or.inl ⟨z1, by rw [rw_wr, f9]; exact z2⟩
    · exact Or.inr ⟨s, z1, by rw [rw_wr, f9]; exact z2, stA_wra z3 k0 (by omega), z4⟩
  · obtain ⟨y1, y2⟩ := p6 i s his
    exact ⟨y1, stA_wra y2 k0 (by omega)⟩
/-- the state moved on to T -/
def goS (T : Int) (s : sta) : sta := (fun k => if k = 0 then T else s.1 k, ckK T s.2.1, sgK s.2.2.2.1 s.2.2.2.2.1 (3 * T + 2) s.2.2.1, s.2.2.2.1, s.2.2.2.2.1, s.2.2.2.2.2)
/-- time T isn't behind the signal's -/
def goT (T : Int) (s : sta) : Prop := ∃ u, sgJ u s.2.2.2.1 s.2.2.2.2.1 s.2.2.1 ∧ 0 ≤ u ∧ u ≤ T
theorem goT_h {T : Int} (hs : sV now) (h0 : now.1 0 ≤ T) : goT T now := by
  obtain ⟨-, -, -, ⟨u, hJ, q0, q1⟩, -⟩ := hs
  exact ⟨u, hJ, q0, by omega⟩
theorem goS_V {T : Int} (hs : sV now) (h0 : goT T now) (hT : T ≤ 2000000) : sV (goS T now) := by
  obtain ⟨⟨v0, v1, v2, v3, v5⟩, hc, hg, -, hT4, hM⟩ := hs
  obtain ⟨u, hJ, q0, q1⟩ := h0
  have cK := ckV_K (T := T) hc (by omega)
  have B := (sgK_B (K := 3 * T + 2) (B := T) (by omega) (by omega) hJ q0 (by omega)).1
  exact ⟨⟨⟨by show 0 ≤ T; omega, hT⟩, v1, v2, v3, v5⟩, cK.1, (sgV_K hg (by omega)).1, ⟨T, B, by omega, Int.le_refl _⟩, cK.2.1, hM⟩
theorem gc_passTo {T : Int} (hN : 7000000 ≤ N) (hw : wfS S) (hR : cR S v a now sv ps re ca ch q) (h0 : goT T now) (hT : T ≤ 2000000) :
    ∃ v', F_st_passTo N (a + 11) (J T) S v = some v' ∧ cR S v' a (goS T now) sv ps re ca ch q ∧ exg a 0 0 S v S v' ∧ ag 10 (rw v' (a + 11 + 2)) (goS T now).2.2.1 := by
  have hs := hR.2.1.2
  have hT0 : 0 ≤ T := by
    obtain ⟨u, hJ, q0, q1⟩ := h0
    omega
  obtain ⟨v', e1, e2, e3⟩ := stM_passTo (T := T) hN hR.2.1.1.1 hs.2.1 hs.2.2.1 (by omega)
  have hm := msR_fri hR.2.1.1.2 hR.2.1.1.1.1 e3
  exact ⟨v', e1, (cR_put (now' := goS T now) hR hw (exi_fri e3) ⟨e2, hm⟩ (goS_V hs h0 hT)).2, exg_exi (exi_fri e3) (by omega) (Nat.le_refl _) (Nat.le_refl _), e2.2.2.2.2.1⟩
def f10 (c : Nat) : Nat := if c = 1 then 0 else c
def runO (s : full) (n : Int) : Nat ⊕ (Int × full) := if 1 ≤ n ∧ n ≤ 100000 then (if 2000000 < s.1.1 0 + n then .inl 2 else .inr ((goS (s.1.1 0 + n) s.1).2.2.1 2 - s.1.2.2.1 2, (goS (s.1.1 0 + n) s.1, s.2.1, keepP s.1 s.2.2.1, s.2.2.2))) else .inl 1
theorem gc_run {n : Int} (hN : 7000000 ≤ N) (hw : wfS S) (hR : cR S v a now sv ps re ca ch q) (hq : q ≤ 1000) (hn : -2147483648 ≤ n ∧ n < 2147483648) :
    UC (F_gc_run N a (J n) S v) f10 (runO (now, sv, ps, re, ca, ch) n) a (q + 1) S v := by
  obtain ⟨h, c, g, t, p, M⟩ := now
  obtain ⟨k0, g5, n0, r6, n1, r7, n2, hh, hc, hg⟩ := cR_now hR
  have hs := cR_V hR
  have hv0 := hs.1.1
  unfold F_gc_run runO
  rw [gc_within hn (by decide) (by decide)]
  by_cases z : 1 ≤ n ∧ n ≤ 100000
  · rw [if_pos z, if_pos z, bx_r, grd_true _ k0, g5]
    simp only [Option.bind_some]
    rw [grd_true _ n0, gi_rw, hh 0 (by decide), ← J_add]
    by_cases y : 2000000 < h 0 + n
    · rw [if_pos ((J_lt (by decide) (by omega)).mpr y), if_pos y]
      rfl
    · obtain ⟨S1, v1, e1, w1, R1, G1⟩ := gc_keep (N := N) (by omega) hw hR hq
      obtain ⟨k0', g5', n0', r6', n1', r7', n2', hh', hc', hg'⟩ := cR_now R1
      obtain ⟨v2, e2, R2, G2, A2⟩ := gc_passTo (T := h 0 + n) hN w1 R1 (goT_h hs (by show h 0 ≤ _; omega)) (by omega)
      rw [if_neg (fun w => y ((J_lt (by decide) (by omega)).mp w)), if_neg y, e1]
      simp only [Option.bind_some]
      rw [g5']
      simp only [Option.bind_some]
      rw [grd_true _ n0', r7']
      simp only [Option.bind_some]
      rw [grd_true _ n2', gi_rw, hh' 0 (by decide), ← J_add, e2]
      simp only [Option.bind_some, gi_x]
      rw [hg' 2 (by decide), A2 2 (by decide), ← J_sub]
      exact ⟨S1, v2, rfl, w1, R2, exg_mono (exg_tr G1 G2) (by decide) (by decide)⟩
  · rw [if_neg z, if_neg z, bx_l]
    rfl
-- refusals and acceptance
theorem gc_refuse {x y : Int} (hR : cR S v a now sv ps re ca ch q) : ∃ v', F_gc_refuse a (J x) (J y) S v = some (J (-1), v') ∧ cR S v' a now sv ps x y ch q ∧ exg a 0 0 S v S v' := by
  have k0 := hR.1.1.1
  refine ⟨wr v a (up (up (rw v a) 2 (J x)) 3 (J y)), ?_, cR_row hR ?_ ?_ ?_ ?_ ?_ ?_, exg_wr⟩
  · unfold F_gc_refuse
    rw [grd_true _ k0]
    simp only [lt_def, si_wr, rw_wr, wr_wr]
  · rw [up_ne (by decide), up_ne (by decide)]
  · rw [up_ne (by decide), up_ne (by decide)]
  · rw [up_ne (by decide), up_ne (by decide)]
  · rw [up_ne (by decide), up_same]
  · rw [up_same]
  · rw [up_ne (by decide), up_ne (by decide)]; exact hR.2.2.2.2.2.2
theorem gc_accept2 (hN : 100 ≤ N) (hw : wfS S) (hR : cR S v a now sv ps re ca ch q) (hq : q ≤ 1000) :
    ∃ S' v', F_gc_acceptChange N a S v = some (S', v') ∧ wfS S' ∧ cR S' v' a now sv (keepP now ps) 0 0 ch (q + 1) ∧ exg a 0 0 S v S' v' ∧ ∀ x s, (x = a + 17 ∨ x = a + 23) → stA S v x s → stA S' v' x s := by
  have k0 := hR.1.1.1
  have R1 : cR S (wr v a (up (up (rw v a) 2 (J 0)) 3 (J 0))) a now sv ps 0 0 ch q := by
    refine cR_row hR ?_ ?_ ?_ ?_ ?_ ?_
    · rw [up_ne (by decide), up_ne (by decide)]
    · rw [up_ne (by decide), up_ne (by decide)]
    · rw [up_ne (by decide), up_ne (by decide)]
    · rw [up_ne (by decide), up_same]
    · rw [up_same]
    · rw [up_ne (by decide), up_ne (by decide)]; exact hR.2.2.2.2.2.2
  obtain ⟨S1, v1, e1, w1, R2, G1, K1⟩ := gc_keep2 hN hw R1 hq
  refine ⟨S1, v1, ?_, w1, R2, exg_mono (exg_tr exg_wr G1) (Nat.le_refl _) (Nat.le_refl _), fun x s hx hA => K1 x s hx (stA_wra hA k0 (by omega))⟩
  unfold F_gc_acceptChange
  rw [grd_true _ k0]
  simp only [lt_def, si_wr, rw_wr, wr_wr]
  rw [e1]
  rfl
theorem exg_0 {k l : Nat} {S' : shp} {v' : vl} (h : exg a 0 0 S v S' v') : exg a k l S v S' v' := exg_mono h (Nat.zero_le _) (Nat.zero_le _)
theorem cR_q {q' : Nat} (hR : cR S v a now sv ps re ca ch q) (hq : q ≤ q') : cR S v a now sv ps re ca ch q' := by
  obtain ⟨hL, hn, hsv, ⟨n, p1, p2, p3, p4⟩, r⟩ := hR
  exact ⟨hL, hn, hsv, ⟨n, p1, p2, by omega, p4⟩, r⟩
end MOVES
