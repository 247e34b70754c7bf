/-! The law: its loop. -/
section LAWLOOP
variable {S S' : shp} {v v' : vl} {a m N n q k oa p0 : Nat} {ln : Nat → Nat} {W : Nat → Nat → Int} {i23 : shp → vl → Nat → Nat → Nat → Nat → Int32 → Option (Int32 × shp × vl)}
theorem ST_if {c : Prop} [Decidable c] {t e : Option (Int32 × shp × vl)} (h1 : c → ST N i23 S p0 a m oa k n ln W q t) (h2 : ¬ c → ST N i23 S p0 a m oa k n ln W q e) : ST N i23 S p0 a m oa k n ln W q (if c then t else e) := by
  by_cases z : c
  · rw [if_pos z]
    exact h1 z
  · rw [if_neg z]
    exact h2 z
theorem ST_fin {t : Option (Int32 × shp × vl)} {P : shp → vl → Prop} (h : ST N i23 S p0 a m oa k n ln W q t) (hk : ∀ S' v', LI S' v' a m oa p0 n ln W (q + 1) → gw S S' → ∃ S1 v1, K_lw_law_2723 N i23 S' v' p0 a m oa (J (k : Int)) = some (J 1, S1, v1) ∧ P S1 v1) : ∃ S1 v1, t = some (J 1, S1, v1) ∧ P S1 v1 := by
  obtain ⟨S', v', e, h1, h2⟩ := h
  rw [e]
  exact hk S' v' h1 h2
theorem law_loop (hF : flO) (hN : 7000000 ≤ N) (hn : n ≤ 3072) : ∀ (F k q : Nat) (S : shp) (v : vl), k ≤ n → n < 6 * F + k → 6 * q = k → LI S v a m oa p0 n ln W q →
    ∃ S' v', K_lw_law_23 N F S v p0 a m oa (J (k : Int)) = some (J 1, S', v') ∧ cn S' ≤ cn S + 21 * ((n - k) / 6) ∧ cz S' ≤ cz S + 406 * ((n - k) / 6)
  | 0, k, q, S, v, h1, h2, _, _ => by omega
  | F + 1, k, q, S, v, h1, h2, h3, hI => by
    have hp0 : kin S p0 = some (11, n) := by
      obtain ⟨s, hw, hR0, hd0, hO⟩ := hI
      exact hO.2.2.2.2.1
    have el : nI (alen S p0) = J (n : Int) := by rw [alen_of hp0]; rfl
    show ∃ S' v', Y_lw_law_23 N (K_lw_law_23 N F) S v p0 a m oa (J (k : Int)) = some (J 1, S', v') ∧ _
    unfold Y_lw_law_23
    rw [grd_true _ ⟨11, n, hp0, Or.inr (Or.inl rfl)⟩, el, ← J_sub]
    by_cases z : (n : Int) - 6 < k
    · rw [if_pos ((J_lt (by omega) (by omega)).mpr z)]
      exact ⟨S, v, rfl, by omega, by omega⟩
    · rw [if_neg (fun y => z ((J_lt (by omega) (by omega)).mp y)), grd_true _ (sc_P hp0), grd_true _ (vin_of hp0 (J_toInt (by omega) (by omega)) (by omega))]
      have hk : k + 5 < n ∧ n ≤ 100000 := by omega
      have hq : q ≤ 1000 := by omega
      refine ST_fin (N := N) (i23 := K_lw_law_23 N F) (p0 := p0) (a := a) (m := m) (oa := oa) (k := k) (q := q) (n := n) (ln := ln) (W := W) (S := S) ?_ (fun S' v' g1 g2 => ?_)
      rotate_left
      · unfold K_lw_law_2723
        rw [show J (k : Int) + J 6 = J ((k + 6 : Nat) : Int) by rw [← J_add]; rfl]
        obtain ⟨S1, v1, e1, e2, e3⟩ := law_loop hF hN hn F (k + 6) (q + 1) S' v' (by omega) (by omega) (by omega) g1
        have ed : (n - k) / 6 = (n - (k + 6)) / 6 + 1 := by omega
        unfold gw at g2
        exact ⟨S1, v1, e1, by omega, by omega⟩
      refine ST_if (fun _ => st_appendInput hN hk hI) (fun _ => ?_)
      refine ST_if (fun _ => st_truncateInput hk hI) (fun _ => ?_)
      refine ST_if (fun _ => st_loadCounter hN hI) (fun _ => ?_)
      refine ST_if (fun _ => st_errorCode hI) (fun _ => ?_)
      refine ST_if (fun _ => st_errorOffset hI) (fun _ => ?_)
      refine ST_if (fun _ => st_count hF hN hq hk hI) (fun _ => ?_)
      refine ST_if (fun _ => st_setting hF hN hq hk hI) (fun _ => ?_)
      refine ST_if (fun _ => st_state hF hN hq hk hI) (fun _ => ?_)
      refine ST_if (fun _ => st_segment hF hN hq hk hI) (fun _ => ?_)
      refine ST_if (fun _ => st_measurement hF hN hq hk hI) (fun _ => ?_)
      refine ST_if (fun _ => st_reason hF hN hq hk hI) (fun _ => ?_)
      refine ST_if (fun _ => st_cause hF hN hq hk hI) (fun _ => ?_)
      refine ST_if (fun _ => st_chosenBy hF hN hq hk hI) (fun _ => ?_)
      refine ST_if (fun _ => st_addsUp hF hN hq hk hI) (fun _ => ?_)
      refine ST_if (fun _ => st_edgesIn hF hN hq hk hI) (fun _ => ?_)
      refine ST_if (fun _ => st_outputsIn hF hN hq hk hI) (fun _ => ?_)
      refine ST_if (fun _ => st_clocksIn hF hN hq hk hI) (fun _ => ?_)
      refine ST_if (fun _ => st_driftIn hF hN hq hk hI) (fun _ => ?_)
      refine ST_if (fun _ => st_nextOutput hF hN hq hk hI) (fun _ => ?_)
      refine ST_if (fun _ => st_changesIn hF hN hq hk hI) (fun _ => ?_)
      refine ST_if (fun _ => st_timeOfEdge hF hN hq hk hI) (fun _ => ?_)
      refine ST_if (fun _ => st_timeOfClock hF hN hq hk hI) (fun _ => ?_)
      refine ST_if (fun _ => st_wobble hF hN hq hk hI) (fun _ => ?_)
      refine ST_if (fun _ => st_clocksTo hF hN hq hk hI) (fun _ => ?_)
      refine ST_if (fun _ => st_byGate hF hN hq hk hI) (fun _ => ?_)
      refine ST_if (fun _ => st_byPeriod hF hN hq hk hI) (fun _ => ?_)
      refine ST_if (fun _ => st_trueRate hF hN hq hk hI) (fun _ => ?_)
      refine ST_if (fun _ => st_idealValue hN hk hI) (fun _ => ?_)
      refine ST_if (fun _ => st_longestSilence hF hN hq hk hI) (fun _ => ?_)
      refine ST_if (fun _ => st_apart hF hN hq hk hI) (fun _ => ?_)
      refine ST_if (fun _ => st_gateFor hF hN hq hk hI) (fun _ => ?_)
      refine ST_if (fun _ => st_periodsFor hF hN hq hk hI) (fun _ => ?_)
      refine ST_if (fun _ => st_longestGate hF hN hq hk hI) (fun _ => ?_)
      refine ST_if (fun _ => st_mostPeriods hF hN hq hk hI) (fun _ => ?_)
      refine ST_if (fun _ => st_gateNear hF hN hq hk hI) (fun _ => ?_)
      refine ST_if (fun _ => st_bestPrescale hF hN hq hk hI) (fun _ => ?_)
      refine ST_if (fun _ => st_correctionFor hF hN hq hk hI) (fun _ => ?_)
      refine ST_if (fun _ => st_valueWith hF hN hq hk hI) (fun _ => ?_)
      refine ST_if (fun _ => st_meanValue hF hN hI) (fun _ => ?_)
      refine ST_if (fun _ => st_median hF hN hq hk hI) (fun _ => ?_)
      refine ST_if (fun _ => st_tickShare hF hI) (fun _ => ?_)
      refine ST_if (fun _ => st_spread hF hN hq hk hI) (fun _ => ?_)
      refine ST_if (fun _ => st_sharpest hF hN hq hk hI) (fun _ => ?_)
      refine ST_if (fun _ => st_run hF hN hq hk hI) (fun _ => ?_)
      refine ST_if (fun _ => st_runTo hF hN hq hk hI) (fun _ => ?_)
      refine ST_if (fun _ => st_waitOutput hF hN hq hk hI) (fun _ => ?_)
      refine ST_if (fun _ => sx_gate hF hN hq hk hI) (fun _ => ?_)
      refine ST_if (fun _ => sx_period hF hN hq hk hI) (fun _ => ?_)
      refine ST_if (fun _ => st_choose hF hN hq hk hI) (fun _ => ?_)
      refine ST_if (fun _ => st_calibrate hF hN hq hk hI) (fun _ => ?_)
      refine ST_if (fun _ => st_setPrescale hN hq hk hI) (fun _ => ?_)
      refine ST_if (fun _ => st_set hF hN hq hk hI) (fun _ => ?_)
      refine ST_if (fun _ => st_addSegment hF hN hq hk hI) (fun _ => ?_)
      refine ST_if (fun _ => st_dropSegment hF hN hq hk hI) (fun _ => ?_)
      refine ST_if (fun _ => st_drop hF hN hq hk hI) (fun _ => ?_)
      refine ST_if (fun _ => st_undo hF hN hq hk hI) (fun _ => ?_)
      refine ST_if (fun _ => st_printMeasurement hN hk hI) (fun _ => ?_)
      refine ST_if (fun _ => st_printSettings hN hI) (fun _ => ?_)
      refine ST_if (fun _ => st_printSignal hN hI) (fun _ => ?_)
      refine ST_if (fun _ => st_outputByte hk hI) (fun _ => ?_)
      refine ST_if (fun _ => st_saveState hF hN hq hk hI) (fun _ => ?_)
      refine ST_if (fun _ => st_restoreState hF hN hq hk hI) (fun _ => ?_)
      exact ⟨S, v, rfl, LI_up hI, gw_0⟩
end LAWLOOP
