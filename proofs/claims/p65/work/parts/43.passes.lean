/-! The class's leaps, and its ways through many ticks. -/
section PASSES
theorem ck_leap {S : shp} {v : vl} {a : Nat} {c : Nat → Int} (hk : kin S a = some (0, 0)) (hc : rw v a = iz c) (hr : rB c) (hi : ckI c) (h4 : c 4 < 900000000) (h5 : c 5 < 900000000) (hm : c 5 % 100 = 0) :
    ∃ v1, F_ck_leap a S v = some v1 ∧ F_ck_tick a S v1 = some (wr v a (iz (tkN 100 c))) := by
  have hc' := zi_iz hr
  obtain ⟨b0, b1, b2, b3, b4, b5⟩ := hi
  let d : Nat → Int := fun k => match k with
    | 3 => (c 3 + 99 * c 1) % 1000
    | 4 => c 4 + (99 * c 0 + (c 3 + 99 * c 1) / 1000)
    | 5 => c 5 + 99
    | k => c k
  have e : F_ck_leap a S v = some (wr v a (iz d)) := by
    unfold F_ck_leap
    rw [grd_true _ hk, ck_move (n := 99) (c := c) hk hc hc' (by omega) (by omega) (by omega) b3 (by omega)]
    simp only [Option.bind_some, lt_def, si_wr, wr_wr, rw_wr, gi_rw]
    refine congrArg (fun f => some (wr v a f)) (row_ext fun k => ?_)
    unfold up
    have hmv : ∀ k, (iz (mvZ 99 c) k).toInt = mvZ 99 c k := by
      refine zi_iz fun k => ?_
      match k with
      | 0 => exact hr 0
      | 1 => exact hr 1
      | 2 => exact hr 2
      | 3 => show _ ≤ (c 3 + 99 * c 1) % 1000 ∧ (c 3 + 99 * c 1) % 1000 < _; omega
      | 4 => show _ ≤ c 4 + (99 * c 0 + (c 3 + 99 * c 1) / 1000) ∧ c 4 + (99 * c 0 + (c 3 + 99 * c 1) / 1000) < _; omega
      | j + 5 => exact hr (j + 5)
    match k with
    | 0 => exact hmv 0
    | 1 => exact hmv 1
    | 2 => exact hmv 2
    | 3 => exact hmv 3
    | 4 => exact hmv 4
    | 5 =>
      show (iz (mvZ 99 c) 5 + J 99).toInt = c 5 + 99
      have e5 : (iz (mvZ 99 c) 5).toInt = c 5 := hmv 5
      rw [i_add, e5, tJ] <;> (rw [e5, tJ]; omega)
    | j + 6 => exact hmv (j + 6)
  have hd : ckI d := by
    refine ⟨b0, b1, b2, ?_, ?_, ?_⟩
    · show 0 ≤ (c 3 + 99 * c 1) % 1000 ∧ (c 3 + 99 * c 1) % 1000 < 1000; omega
    · show 0 ≤ c 4 + (99 * c 0 + (c 3 + 99 * c 1) / 1000); omega
    · show 0 ≤ c 5 + 99; omega
  have hdr : rB d := fun k => by
    match k with
    | 0 => exact hr 0
    | 1 => exact hr 1
    | 2 => exact hr 2
    | 3 => show _ ≤ (c 3 + 99 * c 1) % 1000 ∧ (c 3 + 99 * c 1) % 1000 < _; omega
    | 4 => show _ ≤ c 4 + (99 * c 0 + (c 3 + 99 * c 1) / 1000) ∧ c 4 + (99 * c 0 + (c 3 + 99 * c 1) / 1000) < _; omega
    | 5 => show _ ≤ c 5 + 99 ∧ c 5 + 99 < _; omega
    | j + 6 => exact hr (j + 6)
  refine ⟨_, e, ?_⟩
  rw [ck_tick (c := d) hk rw_wr hdr (ckI_B hd (by show c 4 + (99 * c 0 + (c 3 + 99 * c 1) / 1000) < _; omega) (by show c 5 + 99 < _; omega)), wr_wr]
  refine congrArg (fun f => some (wr v a (iz f))) ?_
  show tkZ d = tkZ (tkN 99 c)
  rw [tkN_99 hm b3]
  refine tkZ_6 fun k hk6 => ?_
  match k with
  | 0 => rfl
  | 1 => rfl
  | 2 => rfl
  | 3 => rfl
  | 4 => rfl
  | 5 => rfl
  | 6 => exact absurd rfl hk6
  | j + 7 => rfl
theorem ck_tick1 {S : shp} {v : vl} {a : Nat} {c : Nat → Int} (hk : kin S a = some (0, 0)) (hc : rw v a = iz c) (hr : rB c) (hi : ckI c) (h4 : c 4 < 900000000) (h5 : c 5 < 900000000) : F_ck_tick a S v = some (wr v a (iz (tkN 1 c))) := ck_tick (c := c) hk hc hr (ckI_B (c := c) hi (by omega) (by omega))
theorem i_aged {v : vl} {a : Nat} {c : Nat → Int} (hc : rw v a = iz c) (hr : rB c) (h5 : 0 ≤ c 5) : (gi v a 5 - gi v a 5 / J 100 * J 100 = J 0) ↔ c 5 % 100 = 0 := by
  have e5 : (gi v a 5).toInt = c 5 := by rw [gi_rw, hc]; exact zi_iz hr 5
  rw [i_eq, i_rem (by rw [e5]; exact h5) (by rw [tJ]; decide), e5, tJ, tJ]
/-- n edges are passed -/
theorem ck_passEdges {S : shp} {a N : Nat} (hk : kin S a = some (0, 0)) : ∀ (n k : Nat) (v : vl) (c : Nat → Int), rw v a = iz c → rB c → ckI c → c 4 + 1000 * k < 800000000 → c 5 + k < 800000000 → k < n →
    K_ck_passEdges_2 N n S v a (J k) = some (wr v a (iz (tkN k c)))
  | 0, k, v, c, _, _, _, _, _, h => absurd h (Nat.not_lt_zero _)
  | n + 1, k, v, c, hc, hr, hi, h4, h5, hn => by
    show Y_ck_passEdges_2 N (K_ck_passEdges_2 N n S) S v a (J k) = _
    have hI := hi.2.2.2.2
    have tk : (J k).toInt = k := J_toInt (by omega) (by omega)
    unfold Y_ck_passEdges_2
    match k with
    | 0 =>
      rw [if_neg (fun q => by have := i_lt.mp q; rw [tk, tJ] at this; omega)]
      show some v = some (wr v a (iz c))
      rw [← hc, wr_self]
    | k + 1 =>
      have step : ∀ (m : Nat) (w : vl), m + 1 ≤ k + 1 → w = wr v a (iz (tkN (m + 1) c)) → K_ck_passEdges_2 N n S w a (J ((k - m : Nat) : Int)) = some (wr v a (iz (tkN (k + 1) c))) := by
        intro m w hm hw
        obtain ⟨g1, g2, g3, g4, -⟩ := tkN_inv hi (m + 1)
        have := ck_passEdges (N := N) hk n (k - m) w (tkN (m + 1) c) (by rw [hw, rw_wr]) (tkN_rB hi hr (m + 1) (by omega) (by omega)) g1 (by omega) (by omega) (by omega)
        rw [this, hw, wr_wr, ← tkN_add]
        refine congrArg (fun j => some (wr v a (iz (tkN j c)))) (by omega)
      have j1 : J ((k + 1 : Nat) : Int) + J (-1) = J ((k - 0 : Nat) : Int) := by
        refine i_eq.mpr ?_
        rw [i_add, tk, tJ, J_toInt (by omega) (by omega)]
        · omega
        · rw [tk, tJ]; omega
        · rw [tk, tJ]; omega
      rw [if_pos (i_lt.mpr (by rw [tk, tJ]; omega)), grd_true _ hk]
      by_cases ha : c 5 % 100 = 0
      · rw [if_pos ((i_aged hc hr hI.2).mpr ha)]
        by_cases hl : k + 1 < 100
        · rw [if_pos (i_lt.mpr (by rw [tk, tJ]; omega)), ck_tick1 hk hc hr hi (by omega) (by omega)]
          simp only [Option.bind_some]
          rw [j1]
          exact step 0 _ (by omega) rfl
        · rw [if_neg (fun q => by have := i_lt.mp q; rw [tk, tJ] at this; omega)]
          obtain ⟨v1, q1, q2⟩ := ck_leap hk hc hr hi (by omega) (by omega) ha
          rw [q1]
          simp only [Option.bind_some]
          rw [q2]
          simp only [Option.bind_some]
          have j2 : J ((k + 1 : Nat) : Int) + J (-99) + J (-1) = J ((k - 99 : Nat) : Int) := by
            have e1 : (J ((k + 1 : Nat) : Int) + J (-99)).toInt = ((k + 1 : Nat) : Int) + -99 := by rw [i_add, tk, tJ] <;> (rw [tk, tJ]; omega)
            refine i_eq.mpr ?_
            rw [i_add, e1, tJ, J_toInt (by omega) (by omega)]
            · omega
            · rw [e1, tJ]; omega
            · rw [e1, tJ]; omega
          rw [j2]
          exact step 99 _ (by omega) rfl
      · rw [if_neg (fun q => ha ((i_aged hc hr hI.2).mp q)), ck_tick1 hk hc hr hi (by omega) (by omega)]
        simp only [Option.bind_some]
        rw [j1]
        exact step 0 _ (by omega) rfl
end PASSES
