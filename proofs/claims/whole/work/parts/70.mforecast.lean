/-! The model's forecasts. -/
section MFORECAST
variable {S : shp} {v : vl} {m N : Nat} {h c g t p : Nat → Int} {M : Nat → Nat → Int} {sv : Option sta} {ps : List sta} {re ca ch : Int}
/-- a call of the model: its answer, its code, what else -/
def QM (F : Option (Int32 × vl)) (o : Nat ⊕ Int) (P : vl → Prop) : Prop := ∃ v', F = some (J (oVal o), v') ∧ P v'
theorem th_row {k : Nat} {x : Int} : rw (th v m x) (m + 1) k = rw v (m + 1) k := by rw [rw_th (by omega)]
theorem th_rowM {x : Int} (hR : rowM (rw v (m + 1)) h c g t p M) : rowM (rw (th v m x) (m + 1)) h c g t p M := by rw [rw_th (by omega)]; exact hR
/-- it thinks, goes on on its row, comes back -/
theorem think_back {f R : Nat → Int32} (hf : eqX (rw v m) f) : mq m v (wr (wr (wr (wr v (m + 3) (cpR (rw v (m + 1)) (rw v (m + 3)) 0 0 199)) m f) (m + 1) R) (m + 1) (cpR (rw (wr (wr (wr v (m + 3) (cpR (rw v (m + 1)) (rw v (m + 3)) 0 0 199)) m f) (m + 1) R) (m + 3)) (rw (wr (wr (wr v (m + 3) (cpR (rw v (m + 1)) (rw v (m + 3)) 0 0 199)) m f) (m + 1) R) (m + 1)) 0 0 199)) := by
  refine mq_back hf (fun k hk => cpR_lt hk) (fun k hk => ?_)
  rw [cpR_lt hk, rw_wr_ne (by omega), rw_wr_ne (by omega), rw_wr]
theorem think_back1 {R : Nat → Int32} : mq m v (wr (wr (wr v (m + 3) (cpR (rw v (m + 1)) (rw v (m + 3)) 0 0 199)) (m + 1) R) (m + 1) (cpR (rw (wr (wr v (m + 3) (cpR (rw v (m + 1)) (rw v (m + 3)) 0 0 199)) (m + 1) R) (m + 3)) (rw (wr (wr v (m + 3) (cpR (rw v (m + 1)) (rw v (m + 3)) 0 0 199)) (m + 1) R) (m + 1)) 0 0 199)) := by
  refine ⟨rfl, fun a h0 h1 h3 => ?_, ?_, fun k hk => ?_⟩
  · rw [rw_wr_ne h1, rw_wr_ne h1, rw_wr_ne h3]
  · rw [rw_wr_ne (by omega), rw_wr_ne (by omega), rw_wr_ne (by omega)]
    exact eqX_refl _
  · rw [rw_wr, cpR_lt hk, rw_wr_ne (by omega), rw_wr, cpR_lt hk]
theorem gm_moreIn {n : Int} {j : Nat} (hN : 7000000 ≤ N) (hl : mdL S m) (hR : rowM (rw v (m + 1)) h c g t p M) (hV : stV h c g t p M) (hj : j < 23) (hn : 0 ≤ n ∧ n ≤ 100000) :
    ∃ v', F_gm_moreIn N m (J j) (J n) S v = some (J (mk (hX h) (h 0 + n) (ckK (h 0 + n) c) (sgK t p (3 * (h 0 + n) + 2) g) j) - J (mk (hX h) (h 0) c g j), v') ∧ mq m v v' := by
  have hv0 := hV.1.1
  have h9 := (stV_8 hV).1
  have tj : (J (j : Int)).toInt = j := J_toInt (by omega) (by omega)
  have eR : rw (wr v (m + 3) (cpR (rw v (m + 1)) (rw v (m + 3)) 0 0 199)) (m + 1) = rw v (m + 1) := rw_wr_ne (by omega)
  have hR1 : rowM (rw (wr v (m + 3) (cpR (rw v (m + 1)) (rw v (m + 3)) 0 0 199)) (m + 1)) h c g t p M := by rw [eR]; exact hR
  obtain ⟨X, x0, x5, x6, x7, hag, hI, hX1⟩ := rowM_X hR1 hV
  have e0 : rw v (m + 1) 0 = J (h 0) := hR.1 0 (by decide)
  have hG := gm_goesTo (L := h 0 + n) hN hl x0 hI (by omega)
  have k1 : iz (mk X (h 0 + n) (ckK (h 0 + n) c) (sgK (mt X) (mp X) (3 * (h 0 + n) + 2) g)) j = J (mk (hX h) (h 0 + n) (ckK (h 0 + n) c) (sgK t p (3 * (h 0 + n) + 2) g) j) := by
    rw [← sgK_congr h9 hag]
    exact (rowM_mk (T' := h 0 + n) (c' := ckK (h 0 + n) c) (g' := sgK t p (3 * (h 0 + n) + 2) g) hR1 hX1 (sgV_K hV.2.2.1 (by omega)).2.1).1 j hj
  unfold F_gm_moreIn
  rw [grd_true _ hl.1, gm_thinks (by omega) hl]
  simp only [Option.bind_some, hl.2.1, hl.2.2.1, grd_pos, lt_def]
  rw [grd_true _ (vin_of hl.2.2.1 tj (by omega)), clampT tj]
  simp only [gi_x, eR, e0]
  rw [← J_add, hG]
  simp only [Option.bind_some, gi_x, rw_wr]
  rw [k1, hR.1 j hj, gm_back (by omega) hl]
  exact ⟨_, rfl, think_back1⟩
theorem gm_noTicks {n : Int} (hl : mdL S m) (hn : -2147483648 ≤ n ∧ n < 2147483648) : F_gm_noTicks m (J n) S v = some (if 0 ≤ n ∧ n ≤ 100000 then (J 0, v) else (J 1, th v m 1)) := by
  have n1 : ¬ J 1 = J 0 := by decide
  unfold F_gm_noTicks
  rw [gm_inRange hn (by decide) (by decide)]
  simp only [Option.bind_some]
  by_cases z : 0 ≤ n ∧ n ≤ 100000
  · rw [if_pos z, if_neg n1, if_pos z, grd_true _ hl.1, gm_fails0]
    simp only [Option.bind_some]
    rw [grd_true _ (by decide)]
  · rw [if_neg z, if_pos rfl, if_neg z, grd_true _ hl.1, gm_fails1 hl]
    simp only [Option.bind_some]
    rw [grd_true _ (by decide)]
theorem gm_inTicks {n : Int} {j : Nat} (hN : 7000000 ≤ N) (hR : dR S v m (h, c, g, t, p, M) sv ps re ca ch) (hV : stV h c g t p M) (hn : -2147483648 ≤ n ∧ n < 2147483648) (hj : j < 23) :
    QM ((F_gm_noTicks m (J n) S (th v m 0)).bind fun (x3, w4) => (if x3 = (J 0) then (F_gm_moreIn N m (J j) (J n) S w4).bind fun (x5, w6) => some ((x5, w6)) else some (((J 0), w4)))) (inO n 0 (mk (hX h) (h 0 + n) (ckK (h 0 + n) c) (sgK t p (3 * (h 0 + n) + 2) g) j - mk (hX h) (h 0) c g j)) (fun v' => mqt m v v' (oThr (inO n 0 (mk (hX h) (h 0 + n) (ckK (h 0 + n) c) (sgK t p (3 * (h 0 + n) + 2) g) j - mk (hX h) (h 0) c g j)))) := by
  obtain ⟨hl, h1, -⟩ := hR
  have n1 : ¬ J 1 = J 0 := by decide
  rw [gm_noTicks hl hn]
  unfold inO
  by_cases z : 0 ≤ n ∧ n ≤ 100000
  · rw [if_pos z, if_pos z]
    simp only [Option.bind_some, if_true]
    obtain ⟨v', e1, e2⟩ := gm_moreIn (v := th v m 0) hN hl (th_rowM h1) hV hj z
    rw [e1]
    exact ⟨v', by rw [← J_sub]; rfl, mqt_mq e2⟩
  · rw [if_neg z, if_neg z]
    simp only [Option.bind_some, n1, if_false]
    rw [th_th]
    exact ⟨_, rfl, mqt_th⟩
theorem mk_at {X : Nat → Int} {T : Int} {c g : Nat → Int} : mk X T c g 14 = g 2 ∧ mk X T c g 16 = g 3 ∧ mk X T c g 11 = c 5 ∧ mk X T c g 2 = c 1 := ⟨rfl, rfl, rfl, rfl⟩
theorem gm_edgesIn {n : Int} (hN : 7000000 ≤ N) (hR : dR S v m (h, c, g, t, p, M) sv ps re ca ch) (hV : stV h c g t p M) (hn : -2147483648 ≤ n ∧ n < 2147483648) :
    QM (F_gm_edgesIn N m (J n) S v) (inO n 0 (sgK t p (3 * (h 0 + n) + 2) g 2 - g 2)) (fun v' => mqt m v v' (oThr (inO n 0 (sgK t p (3 * (h 0 + n) + 2) g 2 - g 2)))) := by
  unfold F_gm_edgesIn
  rw [grd_true _ hR.1.1]
  simp only [lt_def, si_th]
  have := gm_inTicks (j := 14) hN hR hV hn (by decide)
  rw [mk_at.1, mk_at.1] at this
  exact this
theorem gm_outputsIn {n : Int} (hN : 7000000 ≤ N) (hR : dR S v m (h, c, g, t, p, M) sv ps re ca ch) (hV : stV h c g t p M) (hn : -2147483648 ≤ n ∧ n < 2147483648) :
    QM (F_gm_outputsIn N m (J n) S v) (inO n 0 (sgK t p (3 * (h 0 + n) + 2) g 3 - g 3)) (fun v' => mqt m v v' (oThr (inO n 0 (sgK t p (3 * (h 0 + n) + 2) g 3 - g 3)))) := by
  unfold F_gm_outputsIn
  rw [grd_true _ hR.1.1]
  simp only [lt_def, si_th]
  have := gm_inTicks (j := 16) hN hR hV hn (by decide)
  rw [mk_at.2.1, mk_at.2.1] at this
  exact this
theorem gm_clocksIn {n : Int} (hN : 7000000 ≤ N) (hR : dR S v m (h, c, g, t, p, M) sv ps re ca ch) (hV : stV h c g t p M) (hn : -2147483648 ≤ n ∧ n < 2147483648) :
    QM (F_gm_clocksIn N m (J n) S v) (inO n 0 (ckK (h 0 + n) c 5 - c 5)) (fun v' => mqt m v v' (oThr (inO n 0 (ckK (h 0 + n) c 5 - c 5)))) := by
  unfold F_gm_clocksIn
  rw [grd_true _ hR.1.1]
  simp only [lt_def, si_th]
  have := gm_inTicks (j := 11) hN hR hV hn (by decide)
  rw [mk_at.2.2.1, mk_at.2.2.1] at this
  exact this
theorem gm_driftIn {n : Int} (hN : 7000000 ≤ N) (hR : dR S v m (h, c, g, t, p, M) sv ps re ca ch) (hV : stV h c g t p M) (hn : -2147483648 ≤ n ∧ n < 2147483648) :
    QM (F_gm_driftIn N m (J n) S v) (inO n 0 (ckK (h 0 + n) c 1)) (fun v' => mqt m v v' (oThr (inO n 0 (ckK (h 0 + n) c 1)))) := by
  obtain ⟨hl, h1, -⟩ := hR
  have n1 : ¬ J 1 = J 0 := by decide
  unfold F_gm_driftIn
  rw [grd_true _ hl.1]
  simp only [lt_def, si_th]
  rw [gm_noTicks hl hn]
  unfold inO
  by_cases z : 0 ≤ n ∧ n ≤ 100000
  · rw [if_pos z, if_pos z]
    simp only [Option.bind_some, if_true]
    obtain ⟨v', e1, e2⟩ := gm_moreIn (v := th v m 0) (j := 2) hN hl (th_rowM h1) hV (by decide) z
    have r2 : rw (th v m 0) (m + 1) 2 = J (c 1) := by rw [th_row]; exact h1.1 2 (by decide)
    simp only [hl.2.1, hl.2.2.1, Option.bind_some, grd_pos]
    rw [mk_at.2.2.2, mk_at.2.2.2] at e1
    rw [show J 2 = J ((2 : Nat) : Int) from rfl, e1]
    simp only [Option.bind_some, gi_x, r2]
    rw [← J_sub, ← J_add, show c 1 + (ckK (h 0 + n) c 1 - c 1) = ckK (h 0 + n) c 1 by omega]
    exact ⟨v', rfl, mqt_mq e2⟩
  · rw [if_neg z, if_neg z]
    simp only [Option.bind_some, n1, if_false]
    rw [th_th]
    exact ⟨_, rfl, mqt_th⟩
theorem gm_trueRate {n : Int} (hN : 7000000 ≤ N) (hR : dR S v m (h, c, g, t, p, M) sv ps re ca ch) (hV : stV h c g t p M) (hn : -2147483648 ≤ n ∧ n < 2147483648) :
    QM (F_gm_trueRate N m (J n) S v) (inO n 1 (rtI (sgK t p (3 * (h 0 + n) + 2) g 2 - g 2) n).toInt) (fun v' => mqt m v v' (oThr (inO n 1 (rtI (sgK t p (3 * (h 0 + n) + 2) g 2 - g 2) n).toInt))) := by
  obtain ⟨hl, h1, -⟩ := hR
  have n1 : ¬ J 1 = J 0 := by decide
  unfold F_gm_trueRate
  rw [grd_true _ hl.1]
  simp only [lt_def, si_th]
  rw [gm_inRange hn (by decide) (by decide)]
  simp only [Option.bind_some]
  unfold inO K_gm_trueRate_22
  by_cases z : 1 ≤ n ∧ n ≤ 100000
  · have hne : ¬ Int32.toInt64 (J n) = 0 := fun y => by
      have h1 : (Int32.toInt64 (J n)).toInt = n := by rw [Int32.toInt_toInt64]; exact J_toInt (by omega) (by omega)
      have h0 : (0 : Int64).toInt = 0 := by decide
      rw [y, h0] at h1
      omega
    rw [if_pos z, if_neg n1, if_pos z, grd_true _ hl.1, gm_fails0]
    simp only [Option.bind_some, if_true]
    obtain ⟨v', e1, e2⟩ := gm_moreIn (v := th v m 0) (j := 14) hN hl (th_rowM h1) hV (by decide) (show 0 ≤ n ∧ n ≤ 100000 by omega)
    rw [mk_at.1, mk_at.1] at e1
    rw [grd_true _ hl.1, show J 14 = J ((14 : Nat) : Int) from rfl, e1]
    simp only [Option.bind_some]
    rw [grd_true _ hne]
    simp only [lt_def]
    rw [← J_sub]
    refine ⟨v', ?_, mqt_mq e2⟩
    have ee : J (rtI (sgK t p (3 * (h 0 + n) + 2) g 2 - g 2) n).toInt = rtI (sgK t p (3 * (h 0 + n) + 2) g 2 - g 2) n := J_of _
    unfold rtI at ee ⊢
    unfold oVal
    rw [ee]
  · rw [if_neg z, if_pos rfl, if_neg z, grd_true _ hl.1, gm_fails1 hl]
    simp only [Option.bind_some, n1, if_false]
    rw [th_th]
    exact ⟨_, rfl, mqt_th⟩
theorem gm_nextOutput (hN : 7000000 ≤ N) (hR : dR S v m (h, c, g, t, p, M) sv ps re ca ch) (hV : stV h c g t p M) :
    QM (F_gm_nextOutput N m S v) (.inr (oN t p 0 g)) (fun v' => mqt m v v' 0) := by
  obtain ⟨hl, h1, -⟩ := hR
  have h9 := (stV_8 hV).1
  have n1 : ¬ J 1 = J 0 := by decide
  have eR : rw (wr (th v m 0) (m + 3) (cpR (rw (th v m 0) (m + 1)) (rw (th v m 0) (m + 3)) 0 0 199)) (m + 1) = rw (th v m 0) (m + 1) := rw_wr_ne (by omega)
  have hR1 : rowM (rw (wr (th v m 0) (m + 3) (cpR (rw (th v m 0) (m + 1)) (rw (th v m 0) (m + 3)) 0 0 199)) (m + 1)) h c g t p M := by rw [eR]; exact th_rowM h1
  obtain ⟨X, x0, x5, x6, x7, hag, hI, hX1⟩ := rowM_X hR1 hV
  have eo : oN t p 0 g = oT (mt X) (mp X) g := by rw [oN_congr h9 hag, oN_0]
  obtain ⟨y1, y2⟩ := gm_waitsForO hN hl x0 hI
  unfold F_gm_nextOutput
  rw [grd_true _ hl.1]
  simp only [lt_def, si_th]
  rw [gm_thinks (by omega) hl]
  simp only [Option.bind_some]
  by_cases z : oN t p 0 g = -1
  · obtain ⟨T', e1, -⟩ := y2 (eo ▸ z)
    rw [e1]
    simp only [Option.bind_some, if_true]
    rw [gm_back (by omega) hl]
    exact ⟨_, by rw [z]; rfl, mqt_mq think_back1⟩
  · rw [y1 _ (fun w => z (eo.trans w)) rfl]
    simp only [Option.bind_some, n1, if_false, hl.2.1, hl.2.2.1, grd_pos, gi_x, rw_wr]
    rw [gm_back (by omega) hl, eo]
    exact ⟨_, rfl, mqt_mq think_back1⟩
-- measurements that are forecast
theorem gm_byGate {w : Int} (hN : 7000000 ≤ N) (hR : dR S v m (h, c, g, t, p, M) sv ps re ca ch) (hV : stV h c g t p M) (hn : -2147483648 ≤ w ∧ w < 2147483648) :
    QM (F_gm_byGate N m (J w) S v) (bySO w (fG h c g t p w)) (fun v' => mqt m v v' (oThr (bySO w (fG h c g t p w)))) := by
  obtain ⟨hl, h1, -⟩ := hR
  have n1 : ¬ J 1 = J 0 := by decide
  unfold F_gm_byGate
  rw [grd_true _ hl.1]
  simp only [lt_def, si_th]
  rw [gm_inRange hn (by decide) (by decide)]
  simp only [Option.bind_some]
  unfold bySO K_gm_byGate_21
  by_cases z : 0 ≤ w ∧ w ≤ 7
  · rw [if_pos z, if_neg n1, if_pos z, grd_true _ hl.1, gm_fails0]
    simp only [Option.bind_some, if_true]
    obtain ⟨v', e1, e2⟩ := (gm_foretold (v := th v m 0) hN hl (th_rowM h1) hV z).1
    rw [grd_true _ hl.1, e1]
    exact ⟨v', rfl, mqt_mq e2⟩
  · rw [if_neg z, if_pos rfl, if_neg z, grd_true _ hl.1, gm_fails1 hl]
    simp only [Option.bind_some, n1, if_false]
    rw [th_th]
    exact ⟨_, rfl, mqt_th⟩
theorem gm_byPeriod {w : Int} (hN : 7000000 ≤ N) (hR : dR S v m (h, c, g, t, p, M) sv ps re ca ch) (hV : stV h c g t p M) (hn : -2147483648 ≤ w ∧ w < 2147483648) :
    QM (F_gm_byPeriod N m (J w) S v) (bySO w (fP h c g t p w)) (fun v' => mqt m v v' (oThr (bySO w (fP h c g t p w)))) := by
  obtain ⟨hl, h1, -⟩ := hR
  have n1 : ¬ J 1 = J 0 := by decide
  unfold F_gm_byPeriod
  rw [grd_true _ hl.1]
  simp only [lt_def, si_th]
  rw [gm_inRange hn (by decide) (by decide)]
  simp only [Option.bind_some]
  unfold bySO K_gm_byPeriod_21
  by_cases z : 0 ≤ w ∧ w ≤ 7
  · rw [if_pos z, if_neg n1, if_pos z, grd_true _ hl.1, gm_fails0]
    simp only [Option.bind_some, if_true]
    obtain ⟨v', e1, e2⟩ := (gm_foretold (v := th v m 0) hN hl (th_rowM h1) hV z).2
    rw [grd_true _ hl.1, e1]
    exact ⟨v', rfl, mqt_mq e2⟩
  · rw [if_neg z, if_pos rfl, if_neg z, grd_true _ hl.1, gm_fails1 hl]
    simp only [Option.bind_some, n1, if_false]
    rw [th_th]
    exact ⟨_, rfl, mqt_th⟩
end MFORECAST
