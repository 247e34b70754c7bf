/-! Dropping the last segment. -/
section DROPSEG
variable {S : shp} {v : vl} {a b m N q : Nat} {h c g t p X : Nat → Int} {M : Nat → Nat → Int} {now : sta} {sv : Option sta} {ps : List sta} {re ca ch : Int}
def dsG (g : Nat → Int) : Nat → Int := fun j => if j = 8 then g 8 - 1 else g j
def dsS (s : sta) : sta := (s.1, s.2.1, dsG s.2.2.1, s.2.2.2)
def dsO (s : full) : Nat ⊕ (Int × full) := if s.1.2.2.1 9 < s.1.2.2.1 8 then .inr (s.1.2.2.1 8 - 1, (dsS s.1, s.2.1, keepP s.1 s.2.2.1, s.2.2.2)) else .inl 1
def f12 (c : Nat) : Nat := if c = 1 then 2 else c
theorem dsG_J {u : Int} (hJ : sgJ u t p g) (hlt : g 9 < g 8) : sgJ u t p (dsG g) := by
  obtain ⟨hI, b, c, d⟩ := hJ
  refine ⟨hI, ⟨b.1, ?_, ?_⟩, fun i hi => c i ?_, fun i h1 h2 => d i h1 ?_⟩
  · show g 9 ≤ g 8 - 1; omega
  · show g 8 - 1 ≤ 8; omega
  · have : (i : Int) < g 8 - 1 := hi
    omega
  · have : (i : Int) < g 8 - 1 := h2
    omega
theorem dsS_V (hs : sV now) (hlt : now.2.2.1 9 < now.2.2.1 8) : sV (dsS now) := by
  obtain ⟨hh, hc, ⟨⟨u, hJ, q0, q1⟩, g6, g7⟩, ⟨u', hJ', q0', q1'⟩, hT, hM⟩ := hs
  exact ⟨hh, hc, ⟨⟨u, dsG_J hJ hlt, q0, q1⟩, g6, g7⟩, ⟨u', dsG_J hJ' hlt, q0', q1'⟩, hT, hM⟩
theorem gc_dropSegment (hN : 100 ≤ N) (hw : wfS S) (hR : cR S v a now sv ps re ca ch q) (hq : q ≤ 1000) : UC (F_gc_dropSegment N a S v) f12 (dsO (now, sv, ps, re, ca, ch)) a (q + 1) S v := by
  obtain ⟨h, c, g, t, p, M⟩ := now
  obtain ⟨k0, g5, n0, r6, n1, r7, n2, hh, hc, hg⟩ := cR_now hR
  have h8 := stV_8 (cR_V hR)
  unfold F_gc_dropSegment dsO
  rw [grd_true _ k0, g5]
  simp only [Option.bind_some]
  rw [grd_true _ n0, r7]
  simp only [Option.bind_some]
  rw [grd_true _ n2, gi_rw, gi_rw, hg 9 (by decide), hg 8 (by decide)]
  by_cases z : g 9 < g 8
  · obtain ⟨S1, v1, e1, w1, R1, G1⟩ := gc_keep hN hw hR hq
    obtain ⟨k0', g5', n0', r6', n1', r7', n2', hh', hc', hg'⟩ := cR_now R1
    obtain ⟨⟨l, hh1, hc1, hW1⟩, hm1⟩ := R1.2.1.1
    have F1 : fri (a + 11) 6 v1 (wr v1 (a + 11 + 2) (up (rw v1 (a + 11 + 2)) 8 (J (g 8 - 1)))) := fri_wr (by omega)
    have N1 := msR_fri hm1 l F1
    have W2 : sgW S1 (wr v1 (a + 11 + 2) (up (rw v1 (a + 11 + 2)) 8 (J (g 8 - 1)))) (a + 11 + 2) t p (dsG g) := by
      refine ⟨hW1.1, by rw [rw_wr]; exact ag_up hW1.2.1, fun i hi => ?_⟩
      have : (i : Int) < g 8 - 1 := hi
      rw [rw_wr_ne (by omega), rw_wr_ne (by omega)]
      exact hW1.2.2 i (by show (i : Int) < g 8; omega)
    have M1 : stM S1 (wr v1 (a + 11 + 2) (up (rw v1 (a + 11 + 2)) 8 (J (g 8 - 1)))) (a + 11) h c (dsG g) t p := ⟨l, by rw [rw_wr_ne (by omega)]; exact hh1, by rw [rw_wr_ne (by omega)]; exact hc1, W2⟩
    obtain ⟨w2, R2⟩ := cR_put (now' := dsS (h, c, g, t, p, M)) R1 w1 (exi_fri F1) ⟨M1, N1⟩ (dsS_V R1.2.1.2 z)
    rw [if_pos ((J_lt (by omega) (by omega)).mpr z), if_pos z, e1]
    simp only [Option.bind_some]
    rw [g5']
    simp only [Option.bind_some]
    rw [grd_true _ n0', r7']
    simp only [Option.bind_some]
    rw [grd_true _ n2', gi_rw, hg' 8 (by decide), ← J_sub]
    simp only [lt_def, si_wr, gi_x, rw_wr, up_same]
    exact ⟨S1, _, rfl, w2, R2, exg_0 (exg_tr G1 (exg_exi (exi_fri F1) (by omega) (Nat.le_refl _) (Nat.le_refl _)))⟩
  · rw [if_neg (fun w => z ((J_lt (by omega) (by omega)).mp w)), if_neg z]
    rfl
theorem gm_dropSegment (hN : 100000 ≤ N) (hR : dR S v m now sv ps re ca ch) (hs : sV now) (hp : psV ps) : UM (F_gm_dropSegment N m S v) (now, sv, ps, re, ca, ch) (dsO (now, sv, ps, re, ca, ch)) S v m := by
  obtain ⟨h, c, g, t, p, M⟩ := now
  have hl := hR.1
  have h1 : rowM (rw v (m + 1)) h c g t p M := hR.2.1
  have h8 := stV_8 (h := h) (c := c) (g := g) (t := t) (p := p) (M := M) hs
  have n1 : ¬ J 1 = J 0 := by decide
  have r19 : rw v (m + 1) 19 = J (g 8) := h1.1 19 (by decide)
  have r20 : rw v (m + 1) 20 = J (g 9) := h1.1 20 (by decide)
  unfold F_gm_dropSegment dsO
  rw [grd_true _ hl.1]
  simp only [lt_def, si_th]
  rw [hl.2.1]
  simp only [Option.bind_some]
  rw [grd_true _ hl.2.2.1, gi_rw, gi_rw, rw_th (show m + 1 ≠ m by omega), r19, r20]
  unfold K_gm_dropSegment_28
  by_cases z : g 9 < g 8
  · have hP : rwM (up (rw v (m + 1)) 19 (J (g 8 - 1))) (dsS (h, c, g, t, p, M)) := by
      refine ⟨fun k k23 => ?_, fun j hj => ?_, fun j hj w hw => ?_⟩
      · by_cases k19 : k = 19
        · subst k19
          rw [up_same]
          rfl
        · rw [up_ne k19, h1.1 k k23]
          match k, k23, k19 with
          | 0, _, _ => rfl
          | 1, _, _ => rfl
          | 2, _, _ => rfl
          | 3, _, _ => rfl
          | 4, _, _ => rfl
          | 5, _, _ => rfl
          | 6, _, _ => rfl
          | 7, _, _ => rfl
          | 8, _, _ => rfl
          | 9, _, _ => rfl
          | 10, _, _ => rfl
          | 11, _, _ => rfl
          | 12, _, _ => rfl
          | 13, _, _ => rfl
          | 14, _, _ => rfl
          | 15, _, _ => rfl
          | 16, _, _ => rfl
          | 17, _, _ => rfl
          | 18, _, _ => rfl
          | 19, _, h => exact absurd rfl h
          | 20, _, _ => rfl
          | 21, _, _ => rfl
          | 22, _, _ => rfl
          | k + 23, h, _ => exact absurd h (by omega)
      · have hj' : (j : Int) < g 8 - 1 := hj
        rw [up_ne (by omega), up_ne (by omega)]
        exact h1.2.1 j (by omega)
      · rw [up_ne (by omega)]
        exact h1.2.2 j hj w hw
    obtain ⟨v1, e1, e2, e3, e4, e5⟩ := gm_keepRow (x := 0) (now' := dsS (h, c, g, t, p, M)) hN hR hs hp hP
    rw [if_neg (fun w => by have := (J_eq (by omega) (by omega)).mp w; omega), if_pos z, grd_true _ hl.1, gm_fails0]
    simp only [Option.bind_some, if_true]
    rw [grd_true _ hl.1, e1]
    simp only [Option.bind_some]
    rw [hl.2.1]
    simp only [Option.bind_some]
    rw [grd_true _ hl.2.2.1]
    simp only [lt_def, si_wr, gi_x, rw_wr, e2, r19]
    rw [← J_sub, up_same]
    exact ⟨_, rfl, e3, e4, e5⟩
  · rw [if_pos (by rw [show g 9 = g 8 by omega]), if_neg z, grd_true _ hl.1, gm_fails1 hl]
    simp only [Option.bind_some, n1, if_false]
    rw [th_th]
    exact ⟨_, rfl, dR_th hR hs, mch_th, th10⟩
end DROPSEG
