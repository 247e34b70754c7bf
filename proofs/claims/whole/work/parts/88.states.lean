/-! Saving, restoring, undoing. -/
section STATES
variable {S : shp} {v : vl} {a b m N q : Nat} {h c g t p X : Nat → Int} {M : Nat → Nat → Int} {now : sta} {sv : Option sta} {ps : List sta} {re ca ch : Int}
theorem st_both {S1 : shp} {v1 : vl} {k l x : Nat} {s : sta} {f : Nat → Int32} (hw : wfS S) (lb : stL S b) (he : exi b 6 k l S v S1 v1) (ka1 : kin S1 a = some (0, 5)) (h1 : stA S v x s) (h2 : x + 6 ≤ b ∨ b + 6 ≤ x) (h3 : a < x) : stA S1 (wr v1 a f) x s := stA_wra (stA_exi h1 hw lb h2 he) ka1 h3
def savO (s : full) : Int × full := (s.1.1 0, (s.1, some s.1, s.2.2))
def resO (s : full) : Nat ⊕ (Int × full) := match s.2.1 with
  | none => .inl 1
  | some x => .inr (x.1 0, (x, s.2.1, [], s.2.2.2))
def undO (s : full) : Nat ⊕ (Int × full) := match s.2.2.1 with
  | [] => .inl 1
  | x :: l => .inr ((l.length : Int), (x, s.2.1, l, s.2.2.2))
def f13 (c : Nat) : Nat := if c = 1 then 3 else c
theorem gc_saveState (hN : 100 ≤ N) (hw : wfS S) (hR : cR S v a now sv ps re ca ch q) : UD (F_gc_saveState N a S v) (savO (now, sv, ps, re, ca, ch)) a (q + 1) S v := by
  obtain ⟨hL, ⟨n1, n2⟩, hsv, ⟨n, p1, p2, p3, p4, p5, p6⟩, r2, r3, r4⟩ := id hR
  obtain ⟨⟨k0, g0, g1, g5, g6, g7, g8, g10⟩, -⟩ := id hL
  have hB : isB a (a + 29) := by unfold isB; omega
  have lb := gcL_st hL hB
  obtain ⟨S1, v1, e1, M1, N1, X1⟩ := st_copyFrom (N := N) hN hw lb n1.1 n1.2 (by omega) (stV_8 n2).2.2 n2.1.2.2.2.2
  have ea : rw v1 a = rw v a := exi_rw X1 hw k0 (by omega)
  have ka1 : kin S1 a = some (0, 5) := exi_kin X1 hw k0
  have hL1 := gcL_exi hL hw hB M1.1 X1
  have nowA : stA S1 (wr v1 a (up (rw v a) 9 (J 1))) (a + 11) now := st_both hw lb X1 ka1 n1 (by omega) (by omega)
  have hR2 : cR S1 (wr v1 a (up (rw v a) 9 (J 1))) a now (some now) ps re ca ch (q + 1) := by
    refine ⟨hL1, ⟨nowA, n2⟩, Or.inr ⟨now, rfl, by rw [rw_wr, up_same], stA_wra ⟨M1, N1⟩ ka1 (by omega), n2⟩, ⟨n, ?_, p2, by omega, ?_, p5, fun i s his => ?_⟩, ?_, ?_, ?_⟩
    · rw [rw_wr, up_ne (by decide)]; exact p1
    · rw [rw_wr, up_ne (by decide)]; exact p4
    · obtain ⟨y1, y2⟩ := p6 i s his
      exact ⟨y1, st_both hw lb X1 ka1 y2 (by omega) (by omega)⟩
    · rw [rw_wr, up_ne (by decide)]; exact r2
    · rw [rw_wr, up_ne (by decide)]; exact r3
    · rw [rw_wr, up_ne (by decide)]; exact r4
  have G1 : exg a 0 0 S v S1 v1 := exg_exi X1 (by omega) (Nat.le_refl _) (Nat.le_refl _)
  refine ⟨S1, _, ?_, exi_wf X1 hw, hR2, exg_0 (exg_tr G1 exg_wr)⟩
  obtain ⟨q0, q5, qn, -⟩ := hL1.1
  have r0 : rw (wr v1 a (up (rw v a) 9 (J 1))) (a + 11) 0 = J (now.1 0) := nowA.1.2.1 0 (by decide)
  unfold F_gc_saveState
  rw [grd_true _ k0, g8]
  simp only [Option.bind_some]
  rw [g5]
  simp only [Option.bind_some]
  rw [grd_true _ lb.1, e1]
  simp only [Option.bind_some, lt_def, si_wr, ea, hL1.1.2.2.2.1]
  rw [grd_true _ nowA.1.1.1, gi_rw, r0]
  rfl
theorem gc_restoreState (hN : 100 ≤ N) (hw : wfS S) (hR : cR S v a now sv ps re ca ch q) : UC (F_gc_restoreState N a S v) f13 (resO (now, sv, ps, re, ca, ch)) a (q + 1) S v := by
  obtain ⟨hL, ⟨n1, n2⟩, hsv, ⟨n, p1, p2, p3, p4, p5, p6⟩, r2, r3, r4⟩ := id hR
  obtain ⟨⟨k0, g0, g1, g5, g6, g7, g8, g10⟩, -⟩ := id hL
  have hB : isB a (a + 11) := by unfold isB; omega
  have lb := gcL_st hL hB
  unfold F_gc_restoreState
  rw [grd_true _ k0, gi_rw]
  rcases hsv with ⟨z1, z2⟩ | ⟨x, z1, z2, z3, z4⟩
  · subst z1
    rw [z2, if_pos rfl]
    rfl
  · subst z1
    obtain ⟨S1, v1, e1, M1, N1, X1⟩ := st_copyFrom (N := N) hN hw lb z3.1 z3.2 (by omega) (stV_8 z4).2.2 z4.1.2.2.2.2
    have ea : rw v1 a = rw v a := exi_rw X1 hw k0 (by omega)
    have ka1 : kin S1 a = some (0, 5) := exi_kin X1 hw k0
    have hL1 := gcL_exi hL hw hB M1.1 X1
    have nowA : stA S1 (wr v1 a (up (rw v a) 12 (J 0))) (a + 11) x := stA_wra ⟨M1, N1⟩ ka1 (by omega)
    have hR2 : cR S1 (wr v1 a (up (rw v a) 12 (J 0))) a x (some x) [] re ca ch (q + 1) := by
      refine ⟨hL1, ⟨nowA, z4⟩, Or.inr ⟨x, rfl, by rw [rw_wr, up_ne (by decide)]; exact z2, st_both hw lb X1 ka1 z3 (by omega) (by omega), z4⟩, ⟨n, ?_, Nat.zero_le _, by omega, ?_, Nat.zero_le _, fun i s his => ?_⟩, ?_, ?_, ?_⟩
      · rw [rw_wr, up_ne (by decide)]; exact p1
      · rw [rw_wr, up_same]; rfl
      · have := get_lt his
        exact absurd this (Nat.not_lt_zero _)
      · rw [rw_wr, up_ne (by decide)]; exact r2
      · rw [rw_wr, up_ne (by decide)]; exact r3
      · rw [rw_wr, up_ne (by decide)]; exact r4
    have G1 : exg a 0 0 S v S1 v1 := exg_exi X1 (by omega) (Nat.le_refl _) (Nat.le_refl _)
    have r0 : rw (wr v1 a (up (rw v a) 12 (J 0))) (a + 11) 0 = J (x.1 0) := nowA.1.2.1 0 (by decide)
    refine ⟨S1, _, ?_, exi_wf X1 hw, hR2, exg_0 (exg_tr G1 exg_wr)⟩
    rw [z2, if_neg (by decide), g5]
    simp only [Option.bind_some]
    rw [g8]
    simp only [Option.bind_some]
    rw [grd_true _ lb.1, e1]
    simp only [Option.bind_some, lt_def, si_wr, ea, hL1.1.2.2.2.1]
    rw [grd_true _ nowA.1.1.1, gi_rw, r0]
theorem gc_undo (hN : 100 ≤ N) (hw : wfS S) (hR : cR S v a now sv ps re ca ch q) (hq : q ≤ 1000) : UC (F_gc_undo N a S v) f13 (undO (now, sv, ps, re, ca, ch)) a (q + 1) S v := by
  obtain ⟨hL, ⟨n1, n2⟩, hsv, ⟨n, p1, p2, p3, p4, p5, p6⟩, r2, r3, r4⟩ := id hR
  obtain ⟨⟨k0, g0, g1, g5, g6, g7, g8, g10⟩, -, -, k35, g35, -⟩ := id hL
  have hB : isB a (a + 11) := by unfold isB; omega
  have lb := gcL_st hL hB
  unfold F_gc_undo
  rw [grd_true _ k0, gi_rw, p4]
  cases ps with
  | nil =>
    rw [if_neg (by decide)]
    rfl
  | cons x l =>
    have hlen : ((x :: l).length : Int) = (l.length : Int) + 1 := rfl
    have hl9 : (x :: l).length = l.length + 1 := rfl
    have hm : (n - 1) % 8 < 8 := Nat.mod_lt _ (by decide)
    obtain ⟨f, ef⟩ : ∃ f, f = up (up (rw v a) 12 (J (l.length : Int))) 11 (J ((n - 1 : Nat) : Int)) := ⟨_, rfl⟩
    obtain ⟨x1, x2⟩ := p6 0 x rfl
    have x2' : stA S (wr v a f) (a + 36 + 6 * ((n - 1) % 8)) x := stA_wra x2 k0 (by omega)
    obtain ⟨S1, v1, e1, M1, N1, X1⟩ := st_copyFrom (N := N) (v := wr v a f) hN hw lb x2'.1 x2'.2 (by omega) (stV_8 x1).2.2 x1.1.2.2.2.2
    have ea : rw v1 a = f := by rw [exi_rw X1 hw k0 (by omega), rw_wr]
    have hL1 := gcL_exi hL hw hB M1.1 X1
    have tn : (J ((n - 1 : Nat) : Int)).toInt = ((n - 1 : Nat) : Int) := J_toInt (by omega) (by omega)
    have t8 : (J (((n - 1) % 8 : Nat) : Int)).toInt = (((n - 1) % 8 : Nat) : Int) := J_toInt (by omega) (by omega)
    have e8 : F_ma_floorMod (J ((n - 1 : Nat) : Int)) (J 8) S (wr v a f) = some (J (((n - 1) % 8 : Nat) : Int)) := by
      rw [fmod_ok (by rw [tJ]; decide) (by rw [tJ]; decide), tn, tJ]
      congr 2
    have keep : ∀ {y : Nat} {s : sta}, stA S v y s → (y + 6 ≤ a + 11 ∨ a + 11 + 6 ≤ y) → a < y → stA S1 v1 y s := fun h1 h2 h3 => stA_exi (stA_wra h1 k0 h3) hw lb h2 X1
    have hR2 : cR S1 v1 a x sv l re ca ch (q + 1) := by
      refine ⟨hL1, ⟨⟨M1, N1⟩, x1⟩, ?_, ⟨n - 1, ?_, by omega, by omega, ?_, by omega, fun i s his => ?_⟩, ?_, ?_, ?_⟩
      · rcases hsv with ⟨z1, z2⟩ | ⟨s, z1, z2, z3, z4⟩
        · exact Or.inl ⟨z1, by rw [ea, ef, up_ne (by decide), up_ne (by decide)]; exact z2⟩
        · exact Or.inr ⟨s, z1, by rw [ea, ef, up_ne (by decide), up_ne (by decide)]; exact z2, keep z3 (by omega) (by omega), z4⟩
      · rw [ea, ef, up_same]
      · rw [ea, ef, up_ne (by decide), up_same]
      · obtain ⟨y1, y2⟩ := p6 (i + 1) s his
        rw [show (n - 1 - 1 - i) % 8 = (n - 1 - (i + 1)) % 8 by congr 1; omega]
        exact ⟨y1, keep y2 (by omega) (by omega)⟩
      · rw [ea, ef, up_ne (by decide), up_ne (by decide)]; exact r2
      · rw [ea, ef, up_ne (by decide), up_ne (by decide)]; exact r3
      · rw [ea, ef, up_ne (by decide), up_ne (by decide)]; exact r4
    have G1 : exg a 0 0 S (wr v a f) S1 v1 := exg_exi X1 (by omega) (Nat.le_refl _) (Nat.le_refl _)
    refine ⟨S1, v1, ?_, exi_wf X1 hw, hR2, exg_0 (exg_tr exg_wr G1)⟩
    have e11 : up (rw v a) 12 (J (l.length : Int)) 11 = J (n : Int) := by rw [up_ne (by decide)]; exact p1
    rw [hlen, if_pos ((J_lt (by decide) (by omega)).mpr (by omega))]
    simp only [lt_def, si_wr, gi_x, rw_wr, wr_wr, p4]
    rw [← J_sub, show (l.length : Int) + 1 - 1 = (l.length : Int) by omega, e11, ← J_sub, show (n : Int) - 1 = ((n - 1 : Nat) : Int) by omega, ← ef, g5]
    simp only [Option.bind_some]
    rw [g10]
    simp only [Option.bind_some]
    have f11 : f 11 = J ((n - 1 : Nat) : Int) := by rw [ef, up_same]
    rw [f11, e8]
    simp only [Option.bind_some]
    rw [grd_true _ k35, grd_true _ (vin_of k35 t8 hm), clampT t8, g35 _ hm]
    simp only [Option.bind_some]
    rw [grd_true _ lb.1, e1]
    simp only [Option.bind_some]
    rw [ea, ef, up_ne (by decide), up_same]
end STATES
