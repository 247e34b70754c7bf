/-! The model's moves. -/
section MMOVES
variable {S : shp} {v : vl} {a b m N q : Nat} {h c g t p X : Nat → Int} {M : Nat → Nat → Int} {now : sta} {sv : Option sta} {ps : List sta} {re ca ch : Int}
theorem gm_go {T : Int} (hN : 7000000 ≤ N) (hl : mdL S m) (h1 : rwM (rw v (m + 1)) now) (hs : sV now) (hT : 0 ≤ T ∧ T ≤ 2000000) : ∃ R, F_gm_goesTo N m (J T) S v = some (wr v (m + 1) R) ∧ rwM R (goS T now) := by
  obtain ⟨h, c, g, t, p, M⟩ := now
  have h9 := (stV_8 hs).1
  obtain ⟨X, x0, x5, x6, x7, hag, hI, hX⟩ := rowM_X (h := h) (c := c) (g := g) (t := t) (p := p) (M := M) h1 hs
  have e := gm_goesTo (L := T) hN hl x0 hI (by omega)
  rw [← sgK_congr h9 hag] at e
  exact ⟨_, e, rowM_mk h1 hX (sgV_K hs.2.2.1 (by omega)).2.1⟩
theorem gm_remembers (hN : 100000 ≤ N) (hl : mdL S m) (h1 : rwM (rw v (m + 1)) now) (hs : sV now) (hP : pR v m ps) : ∃ v', F_gm_remembers N m S v = some v' ∧ pR v' m (keepP now ps) ∧ kpF m v v' := by
  obtain ⟨v', e1, e2, e3⟩ := gm_keepsPast hN hl (Or.inl rfl) h1 hs hP
  refine ⟨v', ?_, e2, e3⟩
  unfold F_gm_remembers
  rw [grd_true _ hl.1, hl.2.1]
  simp only [Option.bind_some]
  rw [e1]
  rfl
/-- the model goes on, keeping the past -/
theorem gm_keepGo {T x : Int} (hN : 7000000 ≤ N) (hR : dR S v m now sv ps re ca ch) (hs : sV now) (hp : psV ps) (h0 : goT T now) (hT : T ≤ 2000000) :
    ∃ v1 R, F_gm_remembers N m S (th v m x) = some v1 ∧ rw v1 (m + 1) = rw v (m + 1) ∧ F_gm_goesTo N m (J T) S v1 = some (wr v1 (m + 1) R) ∧ rwM R (goS T now) ∧ dR S (wr v1 (m + 1) R) m (goS T now) sv (keepP now ps) re ca ch ∧ mch m v (wr v1 (m + 1) R) ∧ rw (wr v1 (m + 1) R) m 10 = J x := by
  obtain ⟨hl, h1, hsv, h5, h6, h7, h8, h9⟩ := id hR
  have hT0 : 0 ≤ T := by
    obtain ⟨u, hJ, q0, q1⟩ := h0
    omega
  have hP : pR (th v m x) m ps := by
    obtain ⟨y1, y2, y3⟩ := dR_pR hR hp
    exact ⟨by rw [rw_th0 (by decide)]; exact y1, y2, fun i s his => by rw [rw_th (by omega)]; exact y3 i s his⟩
  obtain ⟨v1, e1, e2, e3⟩ := gm_remembers (N := N) (v := th v m x) (by omega) hl (by rw [rw_th (by omega)]; exact h1) hs hP
  have r1 : rw v1 (m + 1) = rw v (m + 1) := by rw [e3.2.1 _ (by omega) (by omega), rw_th (by omega)]
  obtain ⟨R, g1, g2⟩ := gm_go (v := v1) hN hl (by rw [r1]; exact h1) hs ⟨hT0, hT⟩
  have hm : ∀ k, k ≠ 5 → k ≠ 10 → rw (wr v1 (m + 1) R) m k = rw v m k := fun k k5 k10 => by rw [rw_wr_ne (by omega), e3.2.2 k k5, rw_th0 k10]
  refine ⟨v1, R, e1, r1, g1, g2, ?_, ?_, ?_⟩
  · refine dR_mk hR (by rw [rw_wr]; exact g2) ?_ (hm 6 (by decide) (by decide)) ?_ ?_ ?_ ?_
    · rw [rw_wr_ne (by omega), e3.2.1 _ (by omega) (by omega), rw_th (by omega)]
    · obtain ⟨y1, y2, y3⟩ := e2
      exact ⟨by rw [rw_wr_ne (by omega)]; exact y1, y2, fun i s his => by rw [rw_wr_ne (by omega)]; exact y3 i s his⟩
    · rw [hm 7 (by decide) (by decide)]; exact h7
    · rw [hm 8 (by decide) (by decide)]; exact h8
    · rw [hm 9 (by decide) (by decide)]; exact h9
  · exact mch_tr mch_th (mch_tr (mch_kpF e3) (mch_wr (by omega)))
  · rw [rw_wr_ne (by omega), e3.2.2 10 (by decide)]
    unfold th
    rw [rw_wr, up_same]
theorem dR_th {x : Int} (hR : dR S v m now sv ps re ca ch) (hs : sV now) : dR S (th v m x) m now sv ps re ca ch := dR_mqt hR hs (mqt_th (x := x))
theorem th10 {x : Int} : rw (th v m x) m 10 = J x := by
  unfold th
  rw [rw_wr, up_same]
theorem gm_run {n : Int} (hN : 7000000 ≤ N) (hR : dR S v m now sv ps re ca ch) (hs : sV now) (hp : psV ps) (hn : -2147483648 ≤ n ∧ n < 2147483648) :
    UM (F_gm_run N m (J n) S v) (now, sv, ps, re, ca, ch) (runO (now, sv, ps, re, ca, ch) n) S v m := by
  have hl := hR.1
  have h1 := hR.2.1
  have hv0 := hs.1.1
  have n1 : ¬ J 1 = J 0 := by decide
  have r0 : rw (th v m 0) (m + 1) 0 = J (now.1 0) := by rw [rw_th (by omega)]; exact h1.1 0 (by decide)
  unfold F_gm_run runO
  rw [grd_true _ hl.1]
  simp only [lt_def, si_th]
  rw [gm_inRange hn (by decide) (by decide)]
  simp only [Option.bind_some]
  unfold K_gm_run_22
  by_cases z : 1 ≤ n ∧ n ≤ 100000
  · rw [if_pos z, if_neg n1, if_pos z, grd_true _ hl.1, gm_fails0]
    simp only [Option.bind_some, if_true]
    rw [grd_true _ hl.1, hl.2.1]
    simp only [Option.bind_some]
    rw [grd_true _ hl.2.2.1, gi_rw, r0, ← J_add]
    unfold K_gm_run_48
    by_cases y : 2000000 < now.1 0 + n
    · rw [if_pos ((J_lt (by decide) (by omega)).mpr y), if_pos y, grd_true _ hl.1, gm_fails1 hl]
      simp only [Option.bind_some, n1, if_false]
      rw [th_th]
      exact ⟨_, rfl, dR_th hR hs, mch_th, th10⟩
    · obtain ⟨v1, R, e1, e2, e3, e4, e5, e6, e7⟩ := gm_keepGo (x := 0) (T := now.1 0 + n) hN hR hs hp (goT_h hs (by omega)) (by omega)
      have r0' : rw v1 (m + 1) 0 = J (now.1 0) := by rw [e2]; exact h1.1 0 (by decide)
      have r14 : rw v1 (m + 1) 14 = J (now.2.2.1 2) := by rw [e2]; exact h1.1 14 (by decide)
      have s14 : R 14 = J ((goS (now.1 0 + n) now).2.2.1 2) := e4.1 14 (by decide)
      rw [if_neg (fun w => y ((J_lt (by decide) (by omega)).mp w)), if_neg y, grd_true _ hl.1, gm_fails0]
      simp only [Option.bind_some, if_true]
      rw [grd_true _ hl.1, e1]
      simp only [Option.bind_some]
      rw [hl.2.1]
      simp only [Option.bind_some]
      rw [grd_true _ hl.2.2.1, gi_rw, r0', ← J_add, e3]
      simp only [Option.bind_some, gi_x, rw_wr, r14, s14]
      rw [← J_sub]
      exact ⟨_, rfl, e5, e6, e7⟩
  · rw [if_neg z, if_pos rfl, if_neg z, grd_true _ hl.1, gm_fails1 hl]
    simp only [Option.bind_some, n1, if_false]
    rw [th_th]
    exact ⟨_, rfl, dR_th hR hs, mch_th, th10⟩
theorem gm_runTo {n : Int} (hN : 7000000 ≤ N) (hR : dR S v m now sv ps re ca ch) (hs : sV now) (hp : psV ps) (hn : -2147483648 ≤ n ∧ n < 2147483648) :
    UM (F_gm_runTo N m (J n) S v) (now, sv, ps, re, ca, ch) (rtoO (now, sv, ps, re, ca, ch) n) S v m := by
  have hl := hR.1
  have h1 := hR.2.1
  have hv0 := hs.1.1
  have n1 : ¬ J 1 = J 0 := by decide
  have r0 : rw (th v m 0) (m + 1) 0 = J (now.1 0) := by rw [rw_th (by omega)]; exact h1.1 0 (by decide)
  unfold F_gm_runTo rtoO
  rw [grd_true _ hl.1]
  simp only [lt_def, si_th]
  rw [hl.2.1]
  simp only [Option.bind_some]
  rw [grd_true _ hl.2.2.1, gi_rw, r0, gm_inRange hn (by omega) (by decide)]
  simp only [Option.bind_some]
  unfold K_gm_runTo_26
  by_cases z : now.1 0 ≤ n ∧ n ≤ 2000000
  · obtain ⟨v1, R, e1, e2, e3, e4, e5, e6, e7⟩ := gm_keepGo (x := 0) (T := n) hN hR hs hp (goT_h hs z.1) z.2
    have r16 : rw v1 (m + 1) 16 = J (now.2.2.1 3) := by rw [e2]; exact h1.1 16 (by decide)
    have s16 : R 16 = J ((goS n now).2.2.1 3) := e4.1 16 (by decide)
    rw [if_pos z, if_neg n1, if_pos z, grd_true _ hl.1, gm_fails0]
    simp only [Option.bind_some, if_true]
    rw [grd_true _ hl.1, e1]
    simp only [Option.bind_some]
    rw [hl.2.1]
    simp only [Option.bind_some]
    rw [grd_true _ hl.2.2.1, e3]
    simp only [Option.bind_some, gi_x, rw_wr, r16, s16]
    rw [← J_sub]
    exact ⟨_, rfl, e5, e6, e7⟩
  · rw [if_neg z, if_pos rfl, if_neg z, grd_true _ hl.1, gm_fails1 hl]
    simp only [Option.bind_some, n1, if_false]
    rw [th_th]
    exact ⟨_, rfl, dR_th hR hs, mch_th, th10⟩
-- refusing, staying
theorem gm_refuses {x y : Int} (hl : mdL S m) : F_gm_refuses m (J x) (J y) S v = some (J (-1), wr v m (up (up (rw v m) 7 (J x)) 8 (J y))) := by
  unfold F_gm_refuses
  rw [grd_true _ hl.1]
  simp only [lt_def, si_wr, rw_wr, wr_wr]
/-- the model comes back from a thought and says why not -/
theorem gm_backRefuses {w : vl} {x y : Int} (hR : dR S v m now sv ps re ca ch) (hs : sV now) (hq : mqt m v w 0) :
    dR S (wr w m (up (up (rw w m) 7 (J x)) 8 (J y))) m now sv ps x y ch ∧ mch m v (wr w m (up (up (rw w m) 7 (J x)) 8 (J y))) ∧ rw (wr w m (up (up (rw w m) 7 (J x)) 8 (J y))) m 10 = J 0 := by
  have hR' := dR_mqt hR hs hq
  obtain ⟨hl, h1, hsv, h5, h6, h7, h8, h9⟩ := id hR'
  refine ⟨⟨hl, by rw [rw_wr_ne (by omega)]; exact h1, ?_, by rw [rw_wr, up_ne (by decide), up_ne (by decide)]; exact h5, fun i s his => by rw [rw_wr_ne (by omega)]; exact h6 i s his, by rw [rw_wr, up_ne (by decide), up_same], by rw [rw_wr, up_same], by rw [rw_wr, up_ne (by decide), up_ne (by decide)]; exact h9⟩, mch_tr (mch_mqt hq) (mch_m (fun k hk => by rw [up_ne (by omega), up_ne (by omega)])), by rw [rw_wr, up_ne (by decide), up_ne (by decide)]; exact hq.2.2.2.2⟩
  rcases hsv with ⟨z1, z2⟩ | ⟨s, z1, z2, z3⟩
  · exact Or.inl ⟨z1, by rw [rw_wr, up_ne (by decide), up_ne (by decide)]; exact z2⟩
  · exact Or.inr ⟨s, z1, by rw [rw_wr, up_ne (by decide), up_ne (by decide)]; exact z2, by rw [rw_wr_ne (by omega)]; exact z3⟩
/-- the model keeps the row that it set aside, as the past -/
theorem gm_stays {w : vl} {now' : sta} (hN : 100000 ≤ N) (hR : dR S v m now sv ps re ca ch) (hs : sV now) (hp : psV ps) (ha : ∀ k, k < 199 → rw w (m + 3) k = rw v (m + 1) k) (h1 : rwM (rw w (m + 1)) now') (hf : ∀ x, x ≠ m → x ≠ m + 1 → x ≠ m + 3 → rw w x = rw v x) (h2 : w.2 = v.2) (hm : ∀ k, k < 10 ∨ 15 < k → rw w m k = rw v m k) :
    ∃ v', F_gm_stays N m S w = some v' ∧ dR S v' m now' sv (keepP now ps) 0 0 ch ∧ mch m v v' ∧ (∀ k, 9 < k → rw v' m k = rw w m k) ∧ rw v' (m + 1) = rw w (m + 1) := by
  obtain ⟨hl, g1, hsv, h5, h6, h7, h8, h9⟩ := id hR
  have hP : pR w m ps := by
    obtain ⟨y1, y2, y3⟩ := dR_pR hR hp
    exact ⟨by rw [hm 5 (by omega)]; exact y1, y2, fun i s his => by rw [hf _ (by omega) (by omega) (by omega)]; exact y3 i s his⟩
  obtain ⟨v1, e1, e2, e3⟩ := gm_keepsPast (N := N) (v := w) hN hl (Or.inr rfl) (rwM_ag g1 hs ha) hs hP
  have hfin : ∀ k, k ≠ 7 → k ≠ 8 → up (up (rw v1 m) 7 (J 0)) 8 (J 0) k = rw v1 m k := fun k k7 k8 => by rw [up_ne k8, up_ne k7]
  refine ⟨wr v1 m (up (up (rw v1 m) 7 (J 0)) 8 (J 0)), ?_, ?_, ?_, ?_, ?_⟩
  · unfold F_gm_stays
    rw [grd_true _ hl.1, hl.2.2.2.2.1.1]
    simp only [Option.bind_some]
    rw [e1]
    simp only [Option.bind_some, lt_def, si_wr, rw_wr, wr_wr]
  · refine dR_mk hR ?_ ?_ ?_ ?_ ?_ ?_ ?_
    · rw [rw_wr_ne (by omega), e3.2.1 _ (by omega) (by omega)]; exact h1
    · rw [rw_wr_ne (by omega), e3.2.1 _ (by omega) (by omega), hf _ (by omega) (by omega) (by omega)]
    · rw [rw_wr, hfin 6 (by decide) (by decide), e3.2.2 6 (by decide), hm 6 (by omega)]
    · obtain ⟨y1, y2, y3⟩ := e2
      exact ⟨by rw [rw_wr, hfin 5 (by decide) (by decide)]; exact y1, y2, fun i s his => by rw [rw_wr_ne (by omega)]; exact y3 i s his⟩
    · rw [rw_wr, up_ne (by decide), up_same]
    · rw [rw_wr, up_same]
    · rw [rw_wr, hfin 9 (by decide) (by decide), e3.2.2 9 (by decide), hm 9 (by omega)]; exact h9
  · refine ⟨(show v1.2 = v.2 from e3.1.trans h2), fun x hx => ?_, fun k hk => ?_⟩
    · rw [rw_wr_ne (by omega), e3.2.1 _ (by omega) (by omega), hf _ (by omega) (by omega) (by omega)]
    · rw [rw_wr, hfin k (by omega) (by omega), e3.2.2 k (by omega), hm k (by omega)]
  · intro k hk
    rw [rw_wr, hfin k (by omega) (by omega), e3.2.2 k (by omega)]
  · rw [rw_wr_ne (by omega), e3.2.1 _ (by omega) (by omega)]
theorem gm_waitOutput (hN : 7000000 ≤ N) (hR : dR S v m now sv ps re ca ch) (hs : sV now) (hp : psV ps) :
    UM (F_gm_waitOutput N m S v) (now, sv, ps, re, ca, ch) (.inr (woO (now, sv, ps, re, ca, ch))) S v m := by
  obtain ⟨h, c, g, t, p, M⟩ := now
  have hl := hR.1
  have h1 : rowM (rw v (m + 1)) h c g t p M := hR.2.1
  have hs' : stV h c g t p M := hs
  have n1 : ¬ J 1 = J 0 := by decide
  have h9 := (stV_8 hs').1
  have ne1 : m + 1 ≠ m := by omega
  obtain ⟨w3, e3⟩ : ∃ w3, w3 = wr (th v m 0) (m + 3) (cpR (rw (th v m 0) (m + 1)) (rw (th v m 0) (m + 3)) 0 0 199) := ⟨_, rfl⟩
  have R3 : rowM (rw w3 (m + 1)) h c g t p M := by rw [e3, rw_wr_ne (by omega), rw_th (by omega)]; exact h1
  obtain ⟨X, x0, x5, x6, x7, hag, hI, hX⟩ := rowM_X R3 hs'
  obtain ⟨s1, s2⟩ := gm_waitsForO hN hl x0 hI
  have eo : oT (mt X) (mp X) g = oN t p 0 g := by rw [oN_congr h9 hag, oN_0]
  unfold F_gm_waitOutput
  rw [grd_true _ hl.1]
  simp only [lt_def, si_th]
  rw [gm_thinks (by omega) hl]
  simp only [Option.bind_some]
  rw [← e3]
  by_cases y : oN t p 0 g = -1
  · obtain ⟨T', r1, -⟩ := s2 (eo.trans y)
    have hB : sgB (sgK (mt X) (mp X) 6000002 g) := mdI_sgB (mdI_sgK (K := 6000002) hI (by decide)).1
    have er : (if sgK (mt X) (mp X) 6000002 g 0 = 0 then J 2 else J 1) = J (rsZ (h, c, g, t, p, M)) := by
      unfold rsZ
      rw [show sgK (mt X) (mp X) 6000002 g = sgK t p 6000002 g from (sgK_congr h9 hag).symm]
      split <;> rfl
    rw [r1]
    simp only [Option.bind_some, if_true]
    rw [gm_late hl rw_wr hB, er]
    simp only [Option.bind_some]
    obtain ⟨v5, b1, b2⟩ := BK_mq (v := th v m 0) (m := m) (BK_wr1 (R := iz (mk X T' (ckK 2000000 c) (sgK (mt X) (mp X) 6000002 g))) (BK_back (N := N) (S := S) (x := 0) hN hl))
    rw [← e3] at b1
    rw [b1]
    simp only [Option.bind_some]
    rw [gm_refuses hl]
    have ew : woO ((h, c, g, t, p, M), sv, ps, re, ca, ch) = (-1, ((h, c, g, t, p, M), sv, ps, rsZ (h, c, g, t, p, M), 0, ch)) := if_pos y
    rw [ew]
    obtain ⟨d1, d2, d3⟩ := gm_backRefuses (x := rsZ (h, c, g, t, p, M)) (y := 0) hR hs (mqt_mq b2)
    exact ⟨_, rfl, d1, d2, d3⟩
  · obtain ⟨G0, G1⟩ := goT_o (now := (h, c, g, t, p, M)) (i := 0) hs y
    have G1' : oN t p 0 g ≤ 2000000 := G1
    have r1 := s1 _ y eo
    rw [r1]
    simp only [Option.bind_some, n1, if_false]
    have ew : woO ((h, c, g, t, p, M), sv, ps, re, ca, ch) = (oN t p 0 g, (goS (oN t p 0 g) (h, c, g, t, p, M), sv, keepP (h, c, g, t, p, M) ps, 0, 0, ch)) := if_neg y
    rw [ew]
    obtain ⟨R5, eR⟩ : ∃ R5, R5 = iz (mk X (oN t p 0 g) (ckK (oN t p 0 g) c) (sgK (mt X) (mp X) (3 * oN t p 0 g + 2) g)) := ⟨_, rfl⟩
    rw [← eR]
    have hR5 : rwM R5 (goS (oN t p 0 g) (h, c, g, t, p, M)) := by
      rw [eR, ← sgK_congr h9 hag]
      exact rowM_mk R3 hX (sgV_K hs'.2.2.1 (by omega)).2.1
    obtain ⟨v6, f1, f2, f3, f4, f5⟩ := gm_stays (N := N) (w := wr w3 (m + 1) R5) (now' := goS (oN t p 0 g) (h, c, g, t, p, M)) (by omega) hR hs hp
      (fun k hk => by rw [rw_wr_ne (by omega), e3, rw_wr, cpR_lt hk, rw_th (by omega)])
      (by rw [rw_wr]; exact hR5)
      (fun x x0 x1 x3 => by rw [rw_wr_ne x1, e3, rw_wr_ne x3, rw_th x0])
      (by rw [e3]; rfl)
      (fun k hk => by rw [rw_wr_ne (by omega), e3, rw_wr_ne (by omega)]; by_cases k10 : k = 10; · omega
                      · exact rw_th0 k10)
    rw [f1]
    simp only [Option.bind_some]
    have r0 : rw v6 (m + 1) 0 = J (oN t p 0 g) := by rw [f5, rw_wr, eR]; rfl
    rw [hl.2.1]
    simp only [Option.bind_some]
    rw [grd_true _ hl.2.2.1, gi_rw, r0]
    refine ⟨v6, rfl, f2, f3, ?_⟩
    rw [f4 10 (by decide), rw_wr_ne (by omega), e3, rw_wr_ne (by omega)]
    exact th10
end MMOVES
