/-! The choice between both ways. -/
section CHOOSE
variable {S : shp} {v : vl} {a b m N q : Nat} {h c g t p X : Nat → Int} {M : Nat → Nat → Int} {now : sta} {sv : Option sta} {ps : List sta} {re ca ch : Int}
def chsZ (h c g t p : Nat → Int) : Int := if gW h c = 0 then (if pW h c g t p = 0 then (if pM h c g t p 3 < gM h c g t p 3 then 1 else if gM h c g t p 3 < pM h c g t p 3 then 2 else 3) else 4) else (if pW h c g t p = 0 then 5 else 0)
def choO (s : full) : Int × full := if chsZ s.1.1 s.1.2.1 s.1.2.2.1 s.1.2.2.2.1 s.1.2.2.2.2.1 = 0 then (-1, (s.1, s.2.1, s.2.2.1, gW s.1.1 s.1.2.1, pW s.1.1 s.1.2.1 s.1.2.2.1 s.1.2.2.2.1 s.1.2.2.2.2.1, 0)) else if chsZ s.1.1 s.1.2.1 s.1.2.2.1 s.1.2.2.2.1 s.1.2.2.2.2.1 = 2 ∨ chsZ s.1.1 s.1.2.1 s.1.2.2.1 s.1.2.2.2.1 s.1.2.2.2.2.1 = 5 then perO (s.1, s.2.1, s.2.2.1, s.2.2.2.1, s.2.2.2.2.1, chsZ s.1.1 s.1.2.1 s.1.2.2.1 s.1.2.2.2.1 s.1.2.2.2.2.1) else gateO (s.1, s.2.1, s.2.2.1, s.2.2.2.1, s.2.2.2.2.1, chsZ s.1.1 s.1.2.1 s.1.2.2.1 s.1.2.2.2.1 s.1.2.2.2.2.1)
theorem chsZ_B : 0 ≤ chsZ h c g t p ∧ chsZ h c g t p ≤ 5 := by
  unfold chsZ
  split
  · split
    · split
      · decide
      · split <;> decide
    · decide
  · split <;> decide
theorem chsZ_p (hc : chsZ h c g t p = 2 ∨ chsZ h c g t p = 5) : pW h c g t p = 0 := by
  by_cases o : pW h c g t p = 0
  · exact o
  · unfold chsZ at hc
    rw [if_neg o, if_neg o] at hc
    split at hc <;> omega
theorem chsZ_g (h0 : chsZ h c g t p ≠ 0) (h2 : ¬ (chsZ h c g t p = 2 ∨ chsZ h c g t p = 5)) : gW h c = 0 := by
  by_cases y : gW h c = 0
  · exact y
  · unfold chsZ at h0 h2
    rw [if_neg y] at h0 h2
    split at h0
    · rename_i z
      rw [if_pos z] at h2
      omega
    · omega
theorem st_gateA (hN : 7000000 ≤ N) (hw : wfS S) (hA : stA S v b (h, c, g, t, p, M)) (hs : stV h c g t p M) : ∃ S' v', F_st_measureByGate N b S v = some (J (gW h c), S', v') ∧ stL S' b ∧ exi b 6 1 7 S v S' v' ∧ (gW h c = 0 → stA S' v' b (gaS (h, c, g, t, p, M))) := by
  obtain ⟨y1, y2⟩ := st_gate (G := (h 1).toNat) hN hw hA.1 hA.2 hs.2.1 hs.2.2.1 hs.1 (by show h 1 = _; have := hs.1.2.1; omega)
  by_cases y : (tkN (h 1).toNat c) 4 ≤ 2000000
  · obtain ⟨S2, v2, t1, t2, t3, t4⟩ := y1 y
    refine ⟨S2, v2, ?_, t2.1, t4, fun _ => ⟨t2, t3⟩⟩
    rw [gW_0.mpr y]
    exact t1
  · obtain ⟨v2, t1, t2⟩ := y2 (show 2000000 < (tkN (h 1).toNat c) 4 by omega)
    have nW : gW h c = 1 := if_neg y
    refine ⟨S, v2, by rw [nW]; exact t1, hA.1.1, exi_mono (exi_fri t2) (Or.inl ⟨Nat.le_refl _, Nat.le_refl _⟩) (by decide) (by decide), fun z => ?_⟩
    omega
theorem st_perA (hN : 7000000 ≤ N) (hw : wfS S) (hA : stA S v b (h, c, g, t, p, M)) (hs : stV h c g t p M) : ∃ S' v', F_st_measureByPeriod N b S v = some (J (pW h c g t p), S', v') ∧ stL S' b ∧ exi b 6 1 7 S v S' v' ∧ (pW h c g t p = 0 → stA S' v' b (peS (h, c, g, t, p, M))) := by
  obtain ⟨y1, y2, y3⟩ := st_period (G := (h 2).toNat) hN hw hA.1 hA.2 hs.2.1 hs.2.2.1 hs.1 (by show h 2 = _; have := hs.1.2.2.1; omega)
  by_cases o : pW h c g t p = 0
  · obtain ⟨o1, o2⟩ := pW_0.mp o
    obtain ⟨S2, v2, t1, t2, t3, t4⟩ := y1 o1 o2
    refine ⟨S2, v2, ?_, t2.1, t4, fun _ => ⟨t2, t3⟩⟩
    rw [o]
    exact t1
  · by_cases o1 : oN t p (h 2).toNat g = -1
    · have t1 := y3 o1
      have ep : (if sgK t p 6000002 g 0 = 0 then J 2 else J 1) = J (pW h c g t p) := by
        unfold pW
        rw [if_pos o1]
        split <;> rfl
      exact ⟨S, v, by rw [t1, ep], hA.1.1, exi_mono exi_refl (Or.inl ⟨Nat.le_refl _, Nat.le_refl _⟩) (by decide) (by decide), fun z => absurd z o⟩
    · by_cases o2 : cO t p (h 2).toNat c g = 0
      · obtain ⟨v2, t1, t2⟩ := y2 o1 o2
        have ep : pW h c g t p = 3 := by
          unfold pW
          rw [if_neg o1, if_pos o2]
        exact ⟨S, v2, by rw [t1, ep], hA.1.1, exi_mono (exi_fri t2) (Or.inl ⟨Nat.le_refl _, Nat.le_refl _⟩) (by decide) (by decide), fun z => absurd z o⟩
      · exact absurd (pW_0.mpr ⟨o1, o2⟩) o
theorem gc_choose (hN : 7000000 ≤ N) (hw : wfS S) (hR : cR S v a now sv ps re ca ch q) (hq : q ≤ 1000) : UD (F_gc_choose N a S v) (choO (now, sv, ps, re, ca, ch)) a (q + 1) S v := by
  obtain ⟨h, c, g, t, p, M⟩ := now
  obtain ⟨k0, -⟩ := cR_now hR
  obtain ⟨S1, v1, s1, s2, R1, w1, x1⟩ := fresh_R (N := N) (by omega) hw hR (Or.inl rfl)
  have hs := cR_V hR
  obtain ⟨S2, v2, t1, t2, t3, t4⟩ := st_gateA hN w1 s2 hs
  have x2 := exi_tr x1 t3
  obtain ⟨w2, R2, -⟩ := scr_P (k := 1) (l := 7) hR hw (Or.inl rfl) t2 x2 (by decide) (by decide)
  have G2 : exg a 1 7 S v S2 v2 := exg_exi x2 (by omega) (by decide) (by decide)
  obtain ⟨S3, v3, u1, u2, R3, w3, x3⟩ := fresh_R (N := N) (by omega) w2 R2 (Or.inr rfl)
  obtain ⟨S4, v4, z1, z2, z3, z4⟩ := st_perA hN w3 u2 hs
  have x4 := exi_tr x3 z3
  obtain ⟨w4, R4, -⟩ := scr_P (k := 1) (l := 7) R2 w2 (Or.inr rfl) z2 x4 (by decide) (by decide)
  have G4 : exg a 1 7 S2 v2 S4 v4 := exg_exi x4 (by omega) (by decide) (by decide)
  have A17 : gW h c = 0 → stA S4 v4 (a + 17) (gaS (h, c, g, t, p, M)) := fun y => stA_exi (t4 y) w2 (gcL_st R2.1 (by unfold isB; omega)) (by omega) x4
  have eW : (J (gW h c) = J 0) ↔ gW h c = 0 := J_eq (by unfold gW; split <;> omega) (by decide)
  have eP : (J (pW h c g t p) = J 0) ↔ pW h c g t p = 0 := J_eq (by unfold pW; split <;> (split <;> omega)) (by decide)
  have C : F_gc_choice N a (J (gW h c)) (J (pW h c g t p)) S4 v4 = some (J (chsZ h c g t p)) := by
    unfold F_gc_choice chsZ
    by_cases y : gW h c = 0
    · rw [if_pos (eW.mpr y), if_pos y]
      by_cases o : pW h c g t p = 0
      · have gV := gM_V hs.1 hs.2.1 hs.2.2.1 hs.2.2.2.1 hs.2.2.2.2.1 y
        have pV := pM_V hs.1 hs.2.1 hs.2.2.1 o
        have L1 := st_latest_kp (w := 3) (h' := h) (n := h 5) (M := M) (z := gM h c g t p) (show 100 ≤ N by omega) (A17 y).1.1 ((A17 y).1.2.1 5 (by decide)) hs.1.2.2.2.2 (A17 y).2 hs.2.2.2.2.2 gV (by decide)
        have L2 := st_latest_kp (w := 3) (h' := h) (n := h 5) (M := M) (z := pM h c g t p) (show 100 ≤ N by omega) (z4 o).1.1 ((z4 o).1.2.1 5 (by decide)) hs.1.2.2.2.2 (z4 o).2 hs.2.2.2.2.2 pV (by decide)
        have m3 : ∀ z : Nat → Int, mN z 3 = z 3 := fun z => rfl
        have b1 := gV.2.2.2.1
        have b2 := pV.2.2.2.1
        rw [if_pos (eP.mpr o), if_pos o, grd_true _ R4.1.1.1, (gr67 R4.1).1]
        simp only [Option.bind_some]
        rw [grd_true _ (A17 y).1.1.1, L1]
        simp only [Option.bind_some]
        rw [(gr67 R4.1).2.1]
        simp only [Option.bind_some]
        rw [grd_true _ (z4 o).1.1.1, L2]
        simp only [Option.bind_some]
        rw [m3, m3, ← J_sub]
        by_cases a1 : pM h c g t p 3 < gM h c g t p 3
        · rw [if_pos ((J_lt (by decide) (by omega)).mpr (by omega)), if_pos a1]
        · rw [if_neg (fun w => a1 (by have := (J_lt (by decide) (by omega)).mp w; omega)), if_neg a1]
          by_cases a2 : gM h c g t p 3 < pM h c g t p 3
          · rw [if_pos ((J_lt (by omega) (by decide)).mpr (by omega)), if_pos a2]
          · rw [if_neg (fun w => a2 (by have := (J_lt (by omega) (by decide)).mp w; omega)), if_neg a2]
      · rw [if_neg (fun w => o (eP.mp w)), if_neg o]
    · rw [if_neg (fun w => y (eW.mp w)), if_neg y]
      by_cases o : pW h c g t p = 0
      · rw [if_pos (eP.mpr o), if_pos o]
      · rw [if_neg (fun w => o (eP.mp w)), if_neg o]
  have cB := chsZ_B (h := h) (c := c) (g := g) (t := t) (p := p)
  obtain ⟨v5, e5⟩ : ∃ v5, v5 = wr v4 a (up (rw v4 a) 4 (J (chsZ h c g t p))) := ⟨_, rfl⟩
  have R5 : cR S4 v5 a (h, c, g, t, p, M) sv ps re ca (chsZ h c g t p) q := by
    rw [e5]
    exact cR_row R4 (up_ne (by decide)) (up_ne (by decide)) (up_ne (by decide)) ((up_ne (by decide)).trans R4.2.2.2.2.1) ((up_ne (by decide)).trans R4.2.2.2.2.2.1) up_same
  have g4 : gi v5 a 4 = J (chsZ h c g t p) := by rw [gi_rw]; exact R5.2.2.2.2.2.2
  have G5 : exg a 2 14 S v S4 v5 := by
    rw [e5]
    exact exg_tr (exg_tr G2 G4) exg_wr
  have k4 := R4.1.1.1
  unfold F_gc_choose
  simp only [k0, grd_pos, (gr67 hR.1).1, Option.bind_some, s1, oc2, s2.1.1.1]
  rw [t1]
  simp only [Option.bind_some, (gr67 R2.1).2.1, u1, oc2, u2.1.1.1, grd_pos]
  rw [z1]
  simp only [Option.bind_some]
  rw [C]
  simp only [Option.bind_some, lt_def, si_wr]
  rw [← e5, g4]
  by_cases q0 : chsZ h c g t p = 0
  · have eo : choO ((h, c, g, t, p, M), sv, ps, re, ca, ch) = (-1, ((h, c, g, t, p, M), sv, ps, gW h c, pW h c g t p, 0)) := if_pos q0
    rw [q0] at R5
    obtain ⟨v6, f1, f2, f3⟩ := gc_refuse (x := gW h c) (y := pW h c g t p) R5
    rw [if_pos (by rw [q0]), f1, eo]
    exact ⟨S4, v6, rfl, w4, cR_q f2 (by omega), exg_mono (exg_tr G5 f3) (by decide) (by decide)⟩
  · have j0 : ¬ J (chsZ h c g t p) = J 0 := fun w => q0 ((J_eq (by omega) (by decide)).mp w)
    rw [if_neg j0]
    by_cases q2 : chsZ h c g t p = 2 ∨ chsZ h c g t p = 5
    · have o := chsZ_p q2
      have eo : choO ((h, c, g, t, p, M), sv, ps, re, ca, ch) = (pM h c g t p 4, (peS (h, c, g, t, p, M), sv, keepP (h, c, g, t, p, M) ps, 0, 0, chsZ h c g t p)) := by
        have e1 : choO ((h, c, g, t, p, M), sv, ps, re, ca, ch) = perO ((h, c, g, t, p, M), sv, ps, re, ca, chsZ h c g t p) := (if_neg q0).trans (if_pos q2)
        rw [e1]
        exact if_pos o
      have A23 : stA S4 v5 (a + 23) (peS (h, c, g, t, p, M)) := by rw [e5]; exact stA_wra (z4 o) k4 (by omega)
      obtain ⟨S6, v6, f1, f2, f3, f4⟩ := gc_acceptS (s' := peS (h, c, g, t, p, M)) (n := h 5) (M := M) (z := pM h c g t p) (show 100 ≤ N by omega) w4 R5 hq (Or.inr rfl) A23 (peS_V hs o) rfl rfl hs.1.2.2.2.2 hs.2.2.2.2.2 (pM_V hs.1 hs.2.1 hs.2.2.1 o)
      have G6 := exg_mono (exg_tr G5 f4) (show 2 + 0 ≤ 20 by decide) (show 14 + 0 ≤ 400 by decide)
      rw [eo]
      by_cases q3 : chsZ h c g t p = 2
      · rw [if_pos (by rw [q3]), (gr67 R5.1).2.1]
        simp only [Option.bind_some]
        rw [f1]
        exact ⟨S6, v6, rfl, f2, f3, G6⟩
      · rw [if_neg (fun w => q3 ((J_eq (by omega) (by decide)).mp w)), if_pos (by rw [show chsZ h c g t p = 5 by omega]), (gr67 R5.1).2.1]
        simp only [Option.bind_some]
        rw [f1]
        exact ⟨S6, v6, rfl, f2, f3, G6⟩
    · have y := chsZ_g q0 q2
      have eo : choO ((h, c, g, t, p, M), sv, ps, re, ca, ch) = (gM h c g t p 4, (gaS (h, c, g, t, p, M), sv, keepP (h, c, g, t, p, M) ps, 0, 0, chsZ h c g t p)) := by
        have e1 : choO ((h, c, g, t, p, M), sv, ps, re, ca, ch) = gateO ((h, c, g, t, p, M), sv, ps, re, ca, chsZ h c g t p) := (if_neg q0).trans (if_neg q2)
        rw [e1]
        exact if_pos y
      have A17' : stA S4 v5 (a + 17) (gaS (h, c, g, t, p, M)) := by rw [e5]; exact stA_wra (A17 y) k4 (by omega)
      obtain ⟨S6, v6, f1, f2, f3, f4⟩ := gc_acceptS (s' := gaS (h, c, g, t, p, M)) (n := h 5) (M := M) (z := gM h c g t p) (show 100 ≤ N by omega) w4 R5 hq (Or.inl rfl) A17' (gaS_V hs y) rfl rfl hs.1.2.2.2.2 hs.2.2.2.2.2 (gM_V hs.1 hs.2.1 hs.2.2.1 hs.2.2.2.1 hs.2.2.2.2.1 y)
      rw [if_neg (fun w => q2 (Or.inl ((J_eq (by omega) (by decide)).mp w))), if_neg (fun w => q2 (Or.inr ((J_eq (by omega) (by decide)).mp w))), (gr67 R5.1).1, eo]
      simp only [Option.bind_some]
      rw [f1]
      exact ⟨S6, v6, rfl, f2, f3, exg_mono (exg_tr G5 f4) (by decide) (by decide)⟩
end CHOOSE
