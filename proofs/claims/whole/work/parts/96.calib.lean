/-! Calibrating (class). -/
section CALIB
variable {S : shp} {v : vl} {a b m N q : Nat} {h c g t p X : Nat → Int} {M : Nat → Nat → Int} {now : sta} {sv : Option sta} {ps : List sta} {re ca ch : Int}
def caD (n : Int) (s : sta) : Int := ckK (s.1 0 + n) s.2.1 5 - s.2.1 5
def caS (n : Int) (s : sta) : sta := (fun k => if k = 3 then clZ n (caD n s * s.2.1 0) else if k = 0 then s.1 0 + n else s.1 k, (goS (s.1 0 + n) s).2)
def caO (s : full) (n : Int) : Nat ⊕ (Int × full) := if 1 ≤ n ∧ n ≤ 100000 then (if 2000000 < s.1.1 0 + n then .inr (-1, (s.1, s.2.1, s.2.2.1, 1, 0, s.2.2.2.2.2)) else if caD n s.1 = 0 then .inr (-1, (s.1, s.2.1, s.2.2.1, 4, 0, s.2.2.2.2.2)) else .inr (clZ n (caD n s.1 * s.1.2.1 0) + 99, (caS n s.1, s.2.1, keepP s.1 s.2.2.1, 0, 0, s.2.2.2.2.2))) else .inl 1
theorem caS_V {n : Int} (hs : sV now) (h0 : 1 ≤ n) (hT : now.1 0 + n ≤ 2000000) : sV (caS n now) := by
  have hc : ∀ z : Int, -99 ≤ clampZ z ∧ clampZ z ≤ 99 := fun z => by unfold clampZ; repeat' split
                                                                     all_goals omega
  have G := goS_V hs (goT_h hs (show now.1 0 ≤ now.1 0 + n by omega)) hT
  obtain ⟨⟨v0, v1, v2, v3, v5⟩, g1, g2, g3, g4, g5⟩ := G
  exact ⟨⟨v0, v1, v2, hc _, v5⟩, g1, g2, g3, g4, g5⟩
theorem gc_calibrate {n : Int} (hN : 7000000 ≤ N) (hw : wfS S) (hR : cR S v a now sv ps re ca ch q) (hq : q ≤ 1000) (hn : -2147483648 ≤ n ∧ n < 2147483648) :
    UC (F_gc_calibrate N a (J n) S v) f10 (caO (now, sv, ps, re, ca, ch) n) a (q + 1) S v := by
  obtain ⟨h, c, g, t, p, M⟩ := now
  obtain ⟨k0, -⟩ := cR_now hR
  have n10 : ¬ J 1 = J 0 := by decide
  have n40 : ¬ J 4 = J 0 := by decide
  unfold F_gc_calibrate caO
  rw [gc_within hn (by decide) (by decide)]
  by_cases z : 1 ≤ n ∧ n ≤ 100000
  · obtain ⟨S1, v1, s1, s2, R1, w1, x1⟩ := fresh_R (N := N) (by omega) hw hR (Or.inl rfl)
    obtain ⟨b0, -⟩ := id s2.1.1
    have hs := cR_V hR
    obtain ⟨y1, y2, y3⟩ := st_calib hN s2.1 hs.2.1 hs.2.2.1 hs.1 z
    have G1 : exg a 0 0 S v S1 v1 := exg_exi x1 (by omega) (Nat.le_refl _) (Nat.le_refl _)
    have ref : ∀ {x : Int} {v2 : vl}, fri (a + 17) 6 v1 v2 → ∃ v3, F_gc_refuse a (J x) (J 0) S1 v2 = some (J (-1), v3) ∧ PX a ((h, c, g, t, p, M), sv, ps, x, 0, ch) (q + 1) S v S1 v3 := by
      intro x v2 hf
      have x2 := exi_tr x1 (exi_fri hf)
      obtain ⟨w2, R2, -⟩ := scr_P (k := 0) (l := 0) hR hw (Or.inl rfl) s2.1.1 x2 (by decide) (by decide)
      obtain ⟨v3, f1, f2, f3⟩ := gc_refuse (x := x) (y := 0) R2
      have G2 : exg a 0 0 S v S1 v2 := exg_exi x2 (by omega) (Nat.le_refl _) (Nat.le_refl _)
      exact ⟨v3, f1, w2, cR_q f2 (by omega), exg_0 (exg_tr G2 f3)⟩
    rw [if_pos z, if_pos z, bx_r]
    simp only [k0, grd_pos, (gr67 hR.1).1, Option.bind_some, s1, oc2, b0]
    by_cases y : 2000000 < h 0 + n
    · obtain ⟨v3, f1, f2⟩ := ref (x := 1) (fri_refl _ _ v1)
      rw [y1 y, if_pos y]
      simp only [Option.bind_some, n10, if_false]
      rw [f1]
      exact ⟨S1, v3, rfl, f2⟩
    · rw [if_neg y]
      by_cases d : caD n (h, c, g, t, p, M) = 0
      · obtain ⟨v2, t1, t2⟩ := y2 (by show h 0 + n ≤ _; omega) d
        obtain ⟨v3, f1, f2⟩ := ref (x := 4) t2
        rw [t1, if_pos d]
        simp only [Option.bind_some, n40, if_false]
        rw [f1]
        exact ⟨S1, v3, rfl, f2⟩
      · obtain ⟨v2, t1, t2, t3⟩ := y3 (by show h 0 + n ≤ _; omega) d
        have x2 := exi_tr x1 (exi_fri t3)
        obtain ⟨w2, R2, -⟩ := scr_P (k := 0) (l := 0) hR hw (Or.inl rfl) s2.1.1 x2 (by decide) (by decide)
        have G2 : exg a 0 0 S v S1 v2 := exg_exi x2 (by omega) (Nat.le_refl _) (Nat.le_refl _)
        have hV' := caS_V (now := (h, c, g, t, p, M)) (n := n) hs z.1 (by show h 0 + n ≤ _; omega)
        have A2 : stA S1 v2 (a + 17) (caS n (h, c, g, t, p, M)) := ⟨t2, msR_fri s2.2 s2.1.1 t3⟩
        obtain ⟨S3, v3, e3, w3, R3, G3, K3⟩ := gc_accept2 (N := N) (by omega) w2 R2 hq
        have A3 := K3 _ _ (Or.inl rfl) A2
        obtain ⟨q0, q5, qn, -⟩ := cR_now R3
        obtain ⟨S4, v4, e4, M4, N4, X4⟩ := st_copyFrom (N := N) (by omega) w3 (gcL_st R3.1 (Or.inr (Or.inl rfl))) A3.1 A3.2 (by omega) (stV_8 hV').2.2 hV'.1.2.2.2.2
        obtain ⟨w4, R4⟩ := cR_put (now' := caS n (h, c, g, t, p, M)) R3 w3 X4 ⟨M4, N4⟩ hV'
        have G4 : exg a 0 0 S3 v3 S4 v4 := exg_exi X4 (by omega) (Nat.le_refl _) (Nat.le_refl _)
        have r3 : rw v4 (a + 11) 3 = J (clZ n (caD n (h, c, g, t, p, M) * c 0)) := M4.2.1 3 (by decide)
        have hl4 := R4.1.1
        rw [t1, if_neg d]
        simp only [Option.bind_some, if_true]
        rw [e3]
        simp only [Option.bind_some]
        rw [q5]
        simp only [Option.bind_some]
        rw [(gr67 R3.1).1]
        simp only [Option.bind_some]
        rw [grd_true _ qn, e4]
        simp only [Option.bind_some]
        rw [hl4.2.2.2.1]
        simp only [Option.bind_some]
        rw [grd_true _ M4.1.1, gi_rw, r3, ← J_add]
        exact ⟨S4, v4, rfl, w4, R4, exg_0 (exg_tr G2 (exg_tr G3 G4))⟩
  · rw [if_neg z, if_neg z, bx_l]
    rfl
end CALIB
