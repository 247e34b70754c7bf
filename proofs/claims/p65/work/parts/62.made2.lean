/-! The class's measurements by period, and calibrations. -/
section MADE2
theorem oN_rng {t p g : Nat → Int} {i : Nat} (hg : sgV t p g) : oN t p i g = -1 ∨ (0 ≤ oN t p i g ∧ oN t p i g ≤ 2000000) := by
  obtain ⟨⟨u, hJ, q0, q1⟩, -⟩ := hg
  by_cases h : oN t p i g = -1
  · exact Or.inl h
  · have := (oN_at hJ q0 q1 h).2.2.2.2
    right
    omega
theorem st_period {S : shp} {v : vl} {b N : Nat} {h c g t p : Nat → Int} {M : Nat → Nat → Int} {G : Nat} (hN : 7000000 ≤ N) (hw : wfS S) (hM : stM S v b h c g t p) (hm : msR S v (b + 5) (h 5) M) (hc : ckV c) (hg : sgV t p g) (hh : hV h) (hG1 : h 2 = G) :
    (oN t p G g ≠ -1 → cO t p G c g ≠ 0 → ∃ S' v', F_st_measureByPeriod N b S v = some (J 0, S', v') ∧ stM S' v' b (hG h (oN t p G g)) (ckK (oN t p G g) c) (sgK t p (3 * oN t p G g + 2) g) t p ∧ msR S' v' (b + 5) (kpN (h 5)) (kpM (h 5) M (msZ 1 (oN t p 0 g) (oN t p G g) (cO t p G c g) (valZ (h 2) (cO t p G c g) (c 0) (h 3) (g 4)) (h 2) (h 3))) ∧ exi b 6 1 7 S v S' v') ∧
    (oN t p G g ≠ -1 → cO t p G c g = 0 → ∃ v', F_st_measureByPeriod N b S v = some (J 3, S, v') ∧ fri b 6 v v') ∧
    (oN t p G g = -1 → F_st_measureByPeriod N b S v = some (if sgK t p 6000002 g 0 = 0 then J 2 else J 1, S, v)) := by
  obtain ⟨hv0, hv1, hv2, hv3, hv5⟩ := hh
  obtain ⟨k0, r6, k1, r7, l2, r8, k5⟩ := id hM.1
  obtain ⟨-, hh1, hcc, hgg⟩ := id hM
  obtain ⟨⟨u, hJ, q0, q1⟩, s6, s7⟩ := id hg
  have n1 : ¬ J 1 = J 0 := by decide
  have e2 : rw v b 2 = J (G : Int) := by rw [hh1 2 (by decide), hG1]
  have tO : F_sg_timeOfOutput N (b + 2) (J 1) S v = some (J (oN t p 0 g)) := sgW_timeOfOutput (n := 0) (by omega) hgg hg (by decide)
  have tG : F_sg_timeOfOutput N (b + 2) (J 1 + J (G : Int)) S v = some (J (oN t p G g)) := by
    rw [← J_add, show (1 : Int) + G = (G : Int) + 1 by omega]
    exact sgW_timeOfOutput (by omega) hgg hg (by omega)
  have rG := oN_rng (i := G) hg
  have eG : (J (oN t p G g) = J (-1)) ↔ oN t p G g = -1 := J_eq (by omega) (by omega)
  have start : F_st_measureByPeriod N b S v = (if J (oN t p G g) = (J (-1)) then (F_sg_reasonForNoEnd (b + 2) S v).bind fun x7 => some ((x7, S, v)) else (F_ck_passTo N (b + 1) (J (oN t p 0 g)) S v).bind fun w11 => (F_st_passTo N b (J (oN t p G g)) S w11).bind fun w12 => lt ((gi w12 (b + 1) 5) - (gi w11 (b + 1) 5)) fun x13 => (if x13 = (J 0) then some (((J 3), S, w12)) else (F_st_valueOf b (gi w12 b 2) x13 (gi w12 b 3) S w12).bind fun x14 => grd (kin S (nxt S) = none) <| lt3 (grow S (0, 1) (fTN 1).2.1) (nxt S) (zero w12 (nxt S)) fun S16 r17 v18 => grd (kin S16 b = some (0, 4)) <| (F_ms_init r17 (J 1) (J (oN t p 0 g)) (J (oN t p G g)) x13 x14 (gi v18 b 2) (gi v18 b 3) S16 v18).bind fun w22 => (F_st_keep N b r17 S16 w22).bind fun (S23, w24) => some (((J 0), S23, w24)))) := by
    unfold F_st_measureByPeriod
    rw [grd_true _ k0, r7]
    simp only [Option.bind_some]
    rw [grd_true _ l2.1, tO]
    simp only [Option.bind_some]
    rw [gi_rw, e2, tG]
    simp only [Option.bind_some]
    rw [r6]
    simp only [Option.bind_some]
    rw [grd_true _ k1]
  rw [start]
  -- what both ends share
  have main : oN t p G g ≠ -1 → ∃ w11 w12, F_ck_passTo N (b + 1) (J (oN t p 0 g)) S v = some w11 ∧ F_st_passTo N b (J (oN t p G g)) S w11 = some w12 ∧ rw w12 (b + 1) 5 - rw w11 (b + 1) 5 = J (cO t p G c g) ∧ stM S w12 b (fun k => if k = 0 then oN t p G g else h k) (ckK (oN t p G g) c) (sgK t p (3 * oN t p G g + 2) g) t p ∧ fri b 6 v w12 ∧ 0 ≤ cO t p G c g ∧ cO t p G c g ≤ 300000 := by
    intro hO
    obtain ⟨z1, z2⟩ := oN_le hJ q0 q1 hO (Nat.zero_le G)
    have r0 := oN_rng (i := 0) hg
    obtain ⟨f1, s1, a1⟩ := ckW_passTo (T := oN t p 0 g) hN k1 hcc hc (by omega)
    obtain ⟨cV0, cT0, cM0, c00⟩ := ckV_K (T := oN t p 0 g) hc (by omega)
    have M1 : stM S (wr v (b + 1) f1) b h (ckK (oN t p 0 g) c) g t p := by
      refine ⟨hM.1, ?_, ?_, l2, ?_, fun i hi => ?_⟩
      · rw [rw_wr_ne (by omega)]; exact hh1
      · rw [rw_wr]; exact a1
      · rw [rw_wr_ne (by omega)]; exact hgg.2.1
      · rw [rw_wr_ne (by omega), rw_wr_ne (by omega)]; exact hgg.2.2 i hi
    obtain ⟨v2, s2, M2, F2⟩ := stM_passTo (T := oN t p G g) hN M1 cV0 hg (by omega)
    have cK := ckK_K (T := oN t p 0 g) (U := oN t p G g) hc.1 z2
    rw [cK] at M2
    obtain ⟨cV1, cT1, cM1, c01⟩ := ckV_K (T := oN t p G g) cV0 (by omega)
    rw [cK] at cV1 cM1
    refine ⟨_, v2, s1, s2, ?_, M2, fri_tr (fri_wr (by omega)) F2, ?_, ?_⟩
    · rw [M2.2.2.1 5 (by decide), rw_wr, a1 5 (by decide), ← J_sub]
      rfl
    · unfold cO; omega
    · have := cV1.2.1
      have := cV0.1.2.2.2.2.2
      unfold cO; omega
  refine ⟨fun hO hC => ?_, fun hO hC => ?_, fun hO => ?_⟩
  · obtain ⟨w11, w12, p1, p2, p3, M4, F4, o1, o2⟩ := main hO
    rw [if_neg (fun z => hO (eG.mp z)), p1]
    simp only [Option.bind_some]
    rw [p2]
    simp only [Option.bind_some, lt_def, gi_x]
    have eC : (J (cO t p G c g) = J 0) ↔ cO t p G c g = 0 := J_eq (by omega) (by omega)
    rw [p3, if_neg (fun z => hC (eC.mp z))]
    have hm4 : msR S w12 (b + 5) (h 5) M := msR_fri hm hM.1 F4
    have eb : ∀ k, k < 6 → rw w12 b k = J (if k = 0 then oN t p G g else h k) := M4.2.1
    have eb2 : rw w12 b 2 = J (h 2) := eb 2 (by decide)
    have eb3 : rw w12 b 3 = J (h 3) := eb 3 (by decide)
    have cz : ckK (oN t p G g) c 0 = c 0 := (ckV_K (T := oN t p G g) hc (by omega)).2.2.2
    have g4 : sgK t p (3 * oN t p G g + 2) g 4 = g 4 := (sgV_K (K := 3 * oN t p G g + 2) hg (by omega)).2.2
    have gP : 1 ≤ g 4 ∧ g 4 ≤ 16 := hJ.1.2.2.2.2.1
    rw [eb2, eb3, st_valueOf M4 (by rw [cz]; exact hc.1.1) (by rw [g4]; exact gP) (by omega) (by omega) hv3, cz, g4]
    simp only [Option.bind_some]
    have nb : b ≠ nxt S := Nat.ne_of_lt (kin_lt hw k0)
    rw [grd_true _ (hw _ (Nat.le_refl _))]
    simp only [lt3, rw_zero nb]
    rw [grd_true _ (by rw [kin_grow, if_neg nb]; exact k0), eb2, eb3]
    have kr : kin (grow S (0, 1) (fTN 1).2.1) (nxt S) = some (0, 1) := by rw [kin_grow, if_pos rfl]
    obtain ⟨f5, s5, a5⟩ := ms_init (v := zero w12 (nxt S)) (b0 := 1) (T0 := oN t p 0 g) (T1 := oN t p G g) (n := cO t p G c g) (w := valZ (h 2) (cO t p G c g) (c 0) (h 3) (g 4)) (s := h 2) (k := h 3) kr (Or.inr rfl)
    rw [s5]
    simp only [Option.bind_some]
    have x0 : exi b 6 0 0 S v S w12 := exi_fri F4
    have x1 : exi b 6 1 7 S w12 (grow S (0, 1) (fTN 1).2.1) (wr (zero w12 (nxt S)) (nxt S) f5) := exi_new exi_grow (Nat.le_refl _)
    have x2 := exi_tr x0 x1
    have w1 : wfS (grow S (0, 1) (fTN 1).2.1) := exi_wf x1 hw
    obtain ⟨S', v', p1, p2, p3, p4⟩ := st_keep (N := N) (r := nxt S) (by omega) w1 (stM_new hw M4) (msR_new hw k5 hm4) kr (by rw [rw_wr]; exact a5) (by show 0 ≤ h 5 ∧ h 5 ≤ 20; exact hv5)
    rw [p1]
    simp only [Option.bind_some]
    exact ⟨S', v', rfl, ⟨p2.1, p2.2.1, p2.2.2⟩, p3, exi_tr x2 p4⟩
  · obtain ⟨w11, w12, p1, p2, p3, M4, F4, o1, o2⟩ := main hO
    rw [if_neg (fun z => hO (eG.mp z)), p1]
    simp only [Option.bind_some]
    rw [p2]
    simp only [Option.bind_some, lt_def, gi_x]
    rw [p3, hC, if_pos rfl]
    exact ⟨w12, rfl, F4⟩
  · rw [if_pos (eG.mpr hO), sgW_reason hgg hg]
    rfl
end MADE2
