/-! Measurements that count (class). -/
section MAKES
variable {S : shp} {v : vl} {a b m N q : Nat} {h c g t p X : Nat → Int} {M : Nat → Nat → Int} {now : sta} {sv : Option sta} {ps : List sta} {re ca ch : Int}
theorem gc_acceptS {s' : sta} {n : Int} {z : Nat → Int} (hN : 100 ≤ N) (hw : wfS S) (hR : cR S v a now sv ps re ca ch q) (hq : q ≤ 1000) (hb : b = a + 17 ∨ b = a + 23) (hA : stA S v b s') (hs : sV s') (h5 : s'.1 5 = kpN n) (hM : s'.2.2.2.2.2 = kpM n M z) (hn : 0 ≤ n ∧ n ≤ 20) (hMV : ∀ i : Nat, (i : Int) < n → msV (M i)) (hz : msV z) :
    ∃ S' v', F_gc_accept N a b S v = some (J (z 4), S', v') ∧ wfS S' ∧ cX S' v' a (s', sv, keepP now ps, 0, 0, ch) (q + 1) ∧ exg a 0 0 S v S' v' := by
  obtain ⟨S1, v1, e1, w1, R1, G1, K1⟩ := gc_accept2 hN hw hR hq
  have A1 := K1 b s' hb hA
  obtain ⟨k0, g5, n0, -⟩ := cR_now R1
  have k0' := hR.1.1.1
  have h8 := stV_8 hs
  have h5' := hs.1.2.2.2.2
  obtain ⟨S2, v2, e2, M2, N2, X2⟩ := st_copyFrom (N := N) hN w1 (gcL_st R1.1 (Or.inr (Or.inl rfl))) A1.1 A1.2 (by omega) h8.2.2 h5'
  obtain ⟨w2, R2⟩ := cR_put (now' := s') R1 w1 X2 ⟨M2, N2⟩ hs
  obtain ⟨q0, q5, qn, -⟩ := cR_now R2
  have G2 : exg a 0 0 S1 v1 S2 v2 := exg_exi X2 (by omega) (Nat.le_refl _) (Nat.le_refl _)
  have hl := gcL_st R2.1 (Or.inr (Or.inl rfl))
  have r5 : rw v2 (a + 11) 5 = J (kpN n) := by rw [M2.2.1 5 (by decide), h5]
  rw [h5, hM] at N2
  have L := st_latest_kp (w := 4) (h' := s'.1) hN hl r5 hn N2 hMV hz (by decide)
  refine ⟨S2, v2, ?_, w2, R2, exg_tr G1 G2⟩
  unfold F_gc_accept
  rw [grd_true _ k0', e1]
  simp only [Option.bind_some]
  rw [g5]
  simp only [Option.bind_some]
  rw [grd_true _ n0, e2]
  simp only [Option.bind_some]
  rw [q5]
  simp only [Option.bind_some]
  rw [grd_true _ qn, L]
  rfl
def gaS (s : sta) : sta := (hG s.1 ((tkN (s.1 1).toNat s.2.1) 4), tkN ((s.1 1).toNat + 1) s.2.1, gG s.2.2.2.1 s.2.2.2.2.1 (s.1 1).toNat s.2.1 s.2.2.1, s.2.2.2.1, s.2.2.2.2.1, kpM (s.1 5) s.2.2.2.2.2 (gM s.1 s.2.1 s.2.2.1 s.2.2.2.1 s.2.2.2.2.1))
def peS (s : sta) : sta := (hG s.1 (oN s.2.2.2.1 s.2.2.2.2.1 (s.1 2).toNat s.2.2.1), ckK (oN s.2.2.2.1 s.2.2.2.2.1 (s.1 2).toNat s.2.2.1) s.2.1, sgK s.2.2.2.1 s.2.2.2.2.1 (3 * oN s.2.2.2.1 s.2.2.2.2.1 (s.1 2).toNat s.2.2.1 + 2) s.2.2.1, s.2.2.2.1, s.2.2.2.2.1, kpM (s.1 5) s.2.2.2.2.2 (pM s.1 s.2.1 s.2.2.1 s.2.2.2.1 s.2.2.2.2.1))
theorem hG_V {T : Int} (hh : hV h) (hT : 0 ≤ T ∧ T ≤ 2000000) : hV (hG h T) := by
  obtain ⟨v0, v1, v2, v3, v5⟩ := hh
  refine ⟨hT, v1, v2, v3, ?_⟩
  show 0 ≤ kpN (h 5) ∧ kpN (h 5) ≤ 20
  unfold kpN
  split <;> omega
theorem gaS_V (hs : stV h c g t p M) (hW : gW h c = 0) : sV (gaS (h, c, g, t, p, M)) := by
  have y := gW_0.mp hW
  have gV := gM_V hs.1 hs.2.1 hs.2.2.1 hs.2.2.2.1 hs.2.2.2.2.1 hW
  obtain ⟨hh, hc, hg, ⟨u, hJ, q0, q1⟩, hT, hM⟩ := hs
  have hm := tkN_mono hc.1 (show 0 ≤ (h 1).toNat by omega)
  have hm1 := tkN_mono hc.1 (show (h 1).toNat ≤ (h 1).toNat + 1 by omega)
  have c0 : (tkN 0 c) 4 = c 4 := rfl
  have h0 := hh.1
  have B := (sgK_B (K := 3 * (tkN (h 1).toNat c) 4) (B := (tkN (h 1).toNat c) 4 - 1) (by omega) (by omega) hJ q0 (by omega)).1
  have bT : 0 ≤ (tkN (h 1).toNat c) 4 ∧ (tkN (h 1).toNat c) 4 ≤ 2000000 := by omega
  refine ⟨hG_V hh bT, ckV_tkN hc _ y, (gG_V hc.1 hg y).1, ⟨(tkN (h 1).toNat c) 4 - 1, B, by omega, ?_⟩, ?_, kpM_V hh.2.2.2.2 hM gV⟩
  · show (tkN (h 1).toNat c) 4 - 1 ≤ (tkN (h 1).toNat c) 4; omega
  · show (tkN (h 1).toNat c) 4 < (tkN ((h 1).toNat + 1) c) 4; omega
theorem peS_V (hs : stV h c g t p M) (hW : pW h c g t p = 0) : sV (peS (h, c, g, t, p, M)) := by
  obtain ⟨o1, o2⟩ := pW_0.mp hW
  have pV := pM_V hs.1 hs.2.1 hs.2.2.1 hW
  obtain ⟨hh, hc, hg, -, hT, hM⟩ := hs
  obtain ⟨⟨u, hJ, q0, q1⟩, -⟩ := id hg
  have b := (oN_at hJ q0 q1 o1).2.2.2.2
  have cK := ckV_K (T := oN t p (h 2).toNat g) hc (by omega)
  have B := (sgK_B (K := 3 * oN t p (h 2).toNat g + 2) (B := oN t p (h 2).toNat g) (by omega) (by omega) hJ q0 (by omega)).1
  have bT : 0 ≤ oN t p (h 2).toNat g ∧ oN t p (h 2).toNat g ≤ 2000000 := by omega
  have sK := (sgV_K (K := 3 * oN t p (h 2).toNat g + 2) hg (by omega)).1
  exact ⟨hG_V hh bT, cK.1, sK, ⟨oN t p (h 2).toNat g, B, by omega, Int.le_refl _⟩, cK.2.1, kpM_V hh.2.2.2.2 hM pV⟩
def gateO (s : full) : Int × full := if gW s.1.1 s.1.2.1 = 0 then (gM s.1.1 s.1.2.1 s.1.2.2.1 s.1.2.2.2.1 s.1.2.2.2.2.1 4, (gaS s.1, s.2.1, keepP s.1 s.2.2.1, 0, 0, s.2.2.2.2.2)) else (-1, (s.1, s.2.1, s.2.2.1, gW s.1.1 s.1.2.1, 0, s.2.2.2.2.2))
def perO (s : full) : Int × full := if pW s.1.1 s.1.2.1 s.1.2.2.1 s.1.2.2.2.1 s.1.2.2.2.2.1 = 0 then (pM s.1.1 s.1.2.1 s.1.2.2.1 s.1.2.2.2.1 s.1.2.2.2.2.1 4, (peS s.1, s.2.1, keepP s.1 s.2.2.1, 0, 0, s.2.2.2.2.2)) else (-1, (s.1, s.2.1, s.2.2.1, pW s.1.1 s.1.2.1 s.1.2.2.1 s.1.2.2.2.1 s.1.2.2.2.2.1, 0, s.2.2.2.2.2))
theorem gc_gate (hN : 7000000 ≤ N) (hw : wfS S) (hR : cR S v a now sv ps re ca ch q) (hq : q ≤ 1000) : UD (F_gc_gate N a S v) (gateO (now, sv, ps, re, ca, ch)) a (q + 1) S v := by
  obtain ⟨h, c, g, t, p, M⟩ := now
  obtain ⟨k0, -⟩ := cR_now hR
  obtain ⟨S1, v1, s1, s2, R1, w1, x1⟩ := fresh_R (N := N) (by omega) hw hR (Or.inl rfl)
  obtain ⟨b0, -⟩ := id s2.1.1
  have hs := cR_V hR
  obtain ⟨y1, y2⟩ := st_gate (G := (h 1).toNat) hN w1 s2.1 s2.2 hs.2.1 hs.2.2.1 hs.1 (by show h 1 = _; have := hs.1.2.1; omega)
  unfold F_gc_gate
  simp only [k0, grd_pos, (gr67 hR.1).1, Option.bind_some, s1, oc2, b0]
  by_cases y : (tkN (h 1).toNat c) 4 ≤ 2000000
  · have yW := gW_0.mpr y
    obtain ⟨S2, v2, t1, t2, t3, t4⟩ := y1 y
    have x2 := exi_tr x1 t4
    obtain ⟨w2, R2, G2⟩ := scr_P (k := 1) (l := 7) hR hw (Or.inl rfl) t2.1 x2 (by decide) (by decide)
    have G2' : exg a 1 7 S v S2 v2 := exg_exi x2 (by omega) (by decide) (by decide)
    have gV := gM_V hs.1 hs.2.1 hs.2.2.1 hs.2.2.2.1 hs.2.2.2.2.1 yW
    obtain ⟨S3, v3, e3, w3, R3, G3⟩ := gc_acceptS (s' := gaS (h, c, g, t, p, M)) (n := h 5) (M := M) (z := gM h c g t p) (show 100 ≤ N by omega) w2 R2 hq (Or.inl rfl) ⟨t2, t3⟩ (gaS_V hs yW) rfl rfl hs.1.2.2.2.2 hs.2.2.2.2.2 gV
    have eo : gateO ((h, c, g, t, p, M), sv, ps, re, ca, ch) = (gM h c g t p 4, (gaS (h, c, g, t, p, M), sv, keepP (h, c, g, t, p, M) ps, 0, 0, ch)) := if_pos yW
    rw [t1, eo]
    simp only [Option.bind_some, if_true, (gr67 R2.1).1]
    rw [e3]
    exact ⟨S3, v3, rfl, w3, R3, exg_mono (exg_tr G2' G3) (by decide) (by decide)⟩
  · obtain ⟨v2, t1, t2⟩ := y2 (show 2000000 < (tkN (h 1).toNat c) 4 by omega)
    have n10 : ¬ J 1 = J 0 := by decide
    have nW : gW h c = 1 := if_neg y
    have x2 := exi_tr x1 (exi_fri t2)
    obtain ⟨w2, R2, G2⟩ := scr_P (k := 0) (l := 0) hR hw (Or.inl rfl) s2.1.1 x2 (by decide) (by decide)
    obtain ⟨v3, f1, f2, f3⟩ := gc_refuse (x := 1) (y := 0) R2
    have eo : gateO ((h, c, g, t, p, M), sv, ps, re, ca, ch) = (-1, ((h, c, g, t, p, M), sv, ps, 1, 0, ch)) := by
      unfold gateO
      rw [show gW ((h, c, g, t, p, M), sv, ps, re, ca, ch).1.1 ((h, c, g, t, p, M), sv, ps, re, ca, ch).1.2.1 = 1 from nW]
      rfl
    have G2' : exg a 0 0 S v S1 v2 := exg_exi x2 (by omega) (Nat.le_refl _) (Nat.le_refl _)
    rw [t1, eo]
    simp only [Option.bind_some, n10, if_false]
    rw [f1]
    exact ⟨S1, v3, rfl, w2, cR_q f2 (by omega), exg_0 (exg_tr G2' f3)⟩
theorem gc_period (hN : 7000000 ≤ N) (hw : wfS S) (hR : cR S v a now sv ps re ca ch q) (hq : q ≤ 1000) : UD (F_gc_period N a S v) (perO (now, sv, ps, re, ca, ch)) a (q + 1) S v := by
  obtain ⟨h, c, g, t, p, M⟩ := now
  obtain ⟨k0, -⟩ := cR_now hR
  obtain ⟨S1, v1, s1, s2, R1, w1, x1⟩ := fresh_R (N := N) (by omega) hw hR (Or.inr rfl)
  obtain ⟨b0, -⟩ := id s2.1.1
  have hs := cR_V hR
  obtain ⟨y1, y2, y3⟩ := st_period (G := (h 2).toNat) hN w1 s2.1 s2.2 hs.2.1 hs.2.2.1 hs.1 (by show h 2 = _; have := hs.1.2.2.1; omega)
  unfold F_gc_period
  simp only [k0, grd_pos, (gr67 hR.1).2.1, Option.bind_some, s1, oc2, b0]
  by_cases o : pW h c g t p = 0
  · obtain ⟨o1, o2⟩ := pW_0.mp o
    obtain ⟨S2, v2, t1, t2, t3, t4⟩ := y1 o1 o2
    have x2 := exi_tr x1 t4
    obtain ⟨w2, R2, G2⟩ := scr_P (k := 1) (l := 7) hR hw (Or.inr rfl) t2.1 x2 (by decide) (by decide)
    have G2' : exg a 1 7 S v S2 v2 := exg_exi x2 (by omega) (by decide) (by decide)
    have pV := pM_V hs.1 hs.2.1 hs.2.2.1 o
    obtain ⟨S3, v3, e3, w3, R3, G3⟩ := gc_acceptS (s' := peS (h, c, g, t, p, M)) (n := h 5) (M := M) (z := pM h c g t p) (show 100 ≤ N by omega) w2 R2 hq (Or.inr rfl) ⟨t2, t3⟩ (peS_V hs o) rfl rfl hs.1.2.2.2.2 hs.2.2.2.2.2 pV
    have eo : perO ((h, c, g, t, p, M), sv, ps, re, ca, ch) = (pM h c g t p 4, (peS (h, c, g, t, p, M), sv, keepP (h, c, g, t, p, M) ps, 0, 0, ch)) := if_pos o
    rw [t1, eo]
    simp only [Option.bind_some, if_true, (gr67 R2.1).2.1]
    rw [e3]
    exact ⟨S3, v3, rfl, w3, R3, exg_mono (exg_tr G2' G3) (by decide) (by decide)⟩
  · have eo : perO ((h, c, g, t, p, M), sv, ps, re, ca, ch) = (-1, ((h, c, g, t, p, M), sv, ps, pW h c g t p, 0, ch)) := if_neg o
    -- refused from a heap
    have fin : ∀ {v2 : vl}, fri (a + 23) 6 v1 v2 → ∃ v3, F_gc_refuse a (J (pW h c g t p)) (J 0) S1 v2 = some (J (-1), v3) ∧ PX a ((h, c, g, t, p, M), sv, ps, pW h c g t p, 0, ch) (q + 1) S v S1 v3 := by
      intro v2 hf
      have x2 := exi_tr x1 (exi_fri hf)
      obtain ⟨w2, R2, G2⟩ := scr_P (k := 0) (l := 0) hR hw (Or.inr rfl) s2.1.1 x2 (by decide) (by decide)
      obtain ⟨v3, f1, f2, f3⟩ := gc_refuse (x := pW h c g t p) (y := 0) R2
      have G2' : exg a 0 0 S v S1 v2 := exg_exi x2 (by omega) (Nat.le_refl _) (Nat.le_refl _)
      exact ⟨v3, f1, w2, cR_q f2 (by omega), exg_0 (exg_tr G2' f3)⟩
    have n30 : ¬ J 3 = J 0 := by decide
    by_cases o1 : oN t p (h 2).toNat g = -1
    · have t1 := y3 o1
      have nn : ¬ (if sgK t p 6000002 g 0 = 0 then J 2 else J 1) = J 0 := by split <;> decide
      have ep : (if sgK t p 6000002 g 0 = 0 then J 2 else J 1) = J (pW h c g t p) := by
        unfold pW
        rw [if_pos o1]
        split <;> rfl
      obtain ⟨v3, f1, f2⟩ := fin (fri_refl _ _ v1)
      rw [t1, eo]
      simp only [Option.bind_some]
      rw [if_neg nn, ep, f1]
      exact ⟨S1, v3, rfl, f2⟩
    · by_cases o2 : cO t p (h 2).toNat c g = 0
      · obtain ⟨v2, t1, t2⟩ := y2 o1 o2
        have ep : pW h c g t p = 3 := by
          unfold pW
          rw [if_neg o1, if_pos o2]
        obtain ⟨v3, f1, f2⟩ := fin t2
        rw [t1, eo]
        rw [ep] at f1
        simp only [Option.bind_some, n30, if_false]
        rw [f1]
        exact ⟨S1, v3, rfl, f2⟩
      · exact absurd (pW_0.mpr ⟨o1, o2⟩) o
end MAKES
