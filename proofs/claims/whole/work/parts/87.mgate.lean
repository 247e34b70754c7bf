/-! The model's gate and period. -/
section MGATE
variable {S : shp} {v : vl} {a b m N q : Nat} {h c g t p X : Nat → Int} {M : Nat → Nat → Int} {now : sta} {sv : Option sta} {ps : List sta} {re ca ch : Int}
/-- behind a good measurement: set the past aside, keep the new one -/
theorem gm_kept {w : vl} {h' c' g' z : Nat → Int} {bb : Int} (hN : 100000 ≤ N) (hR : dR S v m (h, c, g, t, p, M) sv ps re ca ch) (hs : stV h c g t p M) (hp : psV ps) (ha : ∀ k, k < 199 → rw w (m + 3) k = rw v (m + 1) k) (h1 : rowM (rw w (m + 1)) h' c' g' t p M) (hf : ∀ x, x ≠ m → x ≠ m + 1 → x ≠ m + 3 → rw w x = rw v x) (h2 : w.2 = v.2) (hm : ∀ k, k < 10 ∨ 15 < k → rw w m k = rw v m k) (h8 : g' 8 ≤ 8) (h5 : 0 ≤ h' 5 ∧ h' 5 ≤ 20) (r10 : rw w m 10 = J 0)
    (hT : ∀ (u : vl), (∀ k, 9 < k → rw u m k = rw w m k) → (∀ k, k < 21 → rw u (m + 1) k = rw w (m + 1) k) → ∀ x : Int, 0 ≤ x ∧ x ≤ 7 → F_gm_told N m (J bb) (J x) S u = some (J (mN z x))) :
    ∃ v', ((F_gm_stays N m S w).bind fun w5 => (F_gm_keeps N m (J bb) S w5).bind fun (x6, w7) => some ((x6, w7))) = some (J (z 4), v') ∧ dR S v' m (fun k => if k = 4 then h' 4 + 1 else if k = 5 then kpN (h' 5) else h' k, c', g', t, p, kpM (h' 5) M z) sv (keepP (h, c, g, t, p, M) ps) 0 0 ch ∧ mch m v v' ∧ rw v' m 10 = J 0 := by
  have hl := hR.1
  obtain ⟨v5, e1, d5, m5, k5, r5⟩ := gm_stays (N := N) (w := w) (now' := (h', c', g', t, p, M)) hN hR hs hp ha h1 hf h2 hm
  obtain ⟨R, e2, hR2⟩ := gm_keeps (S := S) (v := v5) (z := z) (bb := bb) (h := h') (c := c') (g := g') (t := t) (p := p) (M := M) hN hl (by rw [r5]; exact h1) h8 h5 (fun R' hR' x hx => by
    refine hT (wr v5 (m + 1) R') (fun k hk => by rw [rw_wr_ne (by omega)]; exact k5 k hk) (fun k hk => ?_) x hx
    rw [rw_wr, hR' k hk, r5])
  rw [e1]
  simp only [Option.bind_some]
  rw [e2]
  simp only [Option.bind_some]
  refine ⟨_, rfl, ?_, mch_tr m5 (mch_wr (by omega)), ?_⟩
  · obtain ⟨hl', g1, gsv, g5, g6, g7, g8, g9⟩ := id d5
    refine dR_mk d5 (by rw [rw_wr]; exact hR2) (rw_wr_ne (by omega)) (by rw [rw_wr_ne (by omega)]) ⟨by rw [rw_wr_ne (by omega)]; exact g5, ?_, fun i s his => ?_⟩ (by rw [rw_wr_ne (by omega)]; exact g7) (by rw [rw_wr_ne (by omega)]; exact g8) (by rw [rw_wr_ne (by omega)]; exact g9)
    · rw [keepP_len]
      split <;> omega
    · rw [rw_wr_ne (by omega)]
      refine ⟨?_, g6 i s his⟩
      rcases keepP_get his with ⟨-, q2⟩ | ⟨j, -, -, q2⟩
      · rw [q2]; exact hs
      · exact hp.2 j s q2
  · rw [rw_wr_ne (by omega), k5 10 (by decide)]
    exact r10
theorem gm_gate (hN : 7000000 ≤ N) (hR : dR S v m now sv ps re ca ch) (hs : sV now) (hp : psV ps) :
    UM (F_gm_gate N m S v) (now, sv, ps, re, ca, ch) (.inr (gateO (now, sv, ps, re, ca, ch))) S v m := by
  obtain ⟨h, c, g, t, p, M⟩ := now
  have hl := hR.1
  have h1 : rowM (rw v (m + 1)) h c g t p M := hR.2.1
  have hs' : stV h c g t p M := hs
  obtain ⟨w3, e3⟩ : ∃ w3, w3 = wr (th v m 0) (m + 3) (cpR (rw (th v m 0) (m + 1)) (rw (th v m 0) (m + 3)) 0 0 199) := ⟨_, rfl⟩
  have R3 : rowM (rw w3 (m + 1)) h c g t p M := by rw [e3, rw_wr_ne (by omega), rw_th (by omega)]; exact h1
  obtain ⟨f', R', s1, s2, s3⟩ := gm_measG hN hl R3 hs'
  have eW : (J (gW h c) = J 0) ↔ gW h c = 0 := J_eq (by unfold gW; split <;> omega) (by decide)
  unfold F_gm_gate
  rw [grd_true _ hl.1]
  simp only [lt_def, si_th]
  unfold F_gm_makes
  rw [grd_true _ hl.1, gm_thinks (by omega) hl]
  simp only [Option.bind_some]
  rw [← e3]
  unfold F_gm_measures
  rw [if_pos rfl, grd_true _ hl.1, s1]
  simp only [Option.bind_some]
  by_cases y : gW h c = 0
  · obtain ⟨k11, k12, k13, -, -, kR⟩ := s3 y
    have eo : gateO ((h, c, g, t, p, M), sv, ps, re, ca, ch) = (gM h c g t p 4, (gaS (h, c, g, t, p, M), sv, keepP (h, c, g, t, p, M) ps, 0, 0, ch)) := if_pos y
    have yT := gW_0.mp y
    have g8' : gG t p (h 1).toNat c g 8 = g 8 := (sgV_K hs'.2.2.1 (by omega)).2.1
    obtain ⟨v', d1, d2, d3, d4⟩ := gm_kept (N := N) (w := wr (wr w3 m f') (m + 1) R') (z := gM h c g t p) (bb := 0) (h' := fun k => if k = 0 then (tkN (h 1).toNat c) 4 else h k) (c' := tkN ((h 1).toNat + 1) c) (g' := gG t p (h 1).toNat c g) (by omega) hR hs' hp
      (fun k hk => by rw [rw_wr_ne (by omega), rw_wr_ne (by omega), e3, rw_wr, cpR_lt hk, rw_th (by omega)])
      (by rw [rw_wr]; exact kR)
      (fun x x0 x1 x3 => by rw [rw_wr_ne x1, rw_wr_ne x0, e3, rw_wr_ne x3, rw_th x0])
      (by rw [e3]; rfl)
      (fun k hk => by rw [rw_wr_ne (by omega), rw_wr, s2 k (by omega), e3, rw_wr_ne (by omega)]; exact rw_th0 (by omega))
      (by rw [g8']; exact (stV_8 hs').2.2) hs'.1.2.2.2.2
      (by rw [rw_wr_ne (by omega), rw_wr, s2 10 (by omega), e3, rw_wr_ne (by omega)]; exact th10)
      (fun u hu hu1 x hx => by
        have um : ∀ k, 9 < k → rw u m k = f' k := fun k hk => by rw [hu k hk, rw_wr_ne (by omega), rw_wr]
        have u1 : ∀ k, k < 21 → rw u (m + 1) k = R' k := fun k hk => by rw [hu1 k hk, rw_wr]
        exact (gm_toldG (w := u) (h' := h) (c' := c) (g' := g) hN hl hs' y (by rw [um 11 (by decide)]; exact k11) (by rw [um 12 (by decide)]; exact k12) (by rw [um 13 (by decide)]; exact k13)
          (by rw [u1 1 (by decide), kR.1 1 (by decide)]; show J ((tkN ((h 1).toNat + 1) c) 0) = _; rw [(tkN_inv hs'.2.1.1 ((h 1).toNat + 1)).2.2.2.2.1])
          (by rw [u1 4 (by decide), kR.1 4 (by decide)]; show J (gG t p (h 1).toNat c g 4) = _; rw [show gG t p (h 1).toNat c g 4 = g 4 from sgK_4 hs'.2.2.1 (by omega)])
          (by rw [u1 5 (by decide), kR.1 5 (by decide)]; rfl) (by rw [u1 6 (by decide), kR.1 6 (by decide)]; rfl) (by rw [u1 7 (by decide), kR.1 7 (by decide)]; rfl) hx).1)
    rw [if_pos (eW.mpr y), d1, eo]
    exact ⟨v', rfl, d2, d3, d4⟩
  · have eo : gateO ((h, c, g, t, p, M), sv, ps, re, ca, ch) = (-1, ((h, c, g, t, p, M), sv, ps, gW h c, 0, ch)) := if_neg y
    rw [if_neg (fun z => y (eW.mp z)), eo]
    obtain ⟨v5, b1, b2⟩ := BK_mq (v := th v m 0) (m := m) (BK_wr (f := f') (R := R') (by rw [e3] at s2; exact s2) (BK_back (N := N) (S := S) (x := 0) hN hl))
    rw [← e3] at b1
    rw [b1]
    simp only [Option.bind_some]
    rw [gm_refuses hl]
    simp only [Option.bind_some]
    obtain ⟨d1, d2, d3⟩ := gm_backRefuses (x := gW h c) (y := 0) hR hs (mqt_mq b2)
    exact ⟨_, rfl, d1, d2, d3⟩
theorem gm_period (hN : 7000000 ≤ N) (hR : dR S v m now sv ps re ca ch) (hs : sV now) (hp : psV ps) :
    UM (F_gm_period N m S v) (now, sv, ps, re, ca, ch) (.inr (perO (now, sv, ps, re, ca, ch))) S v m := by
  obtain ⟨h, c, g, t, p, M⟩ := now
  have hl := hR.1
  have h1 : rowM (rw v (m + 1)) h c g t p M := hR.2.1
  have hs' : stV h c g t p M := hs
  have n10 : ¬ J 1 = J 0 := by decide
  obtain ⟨w3, e3⟩ : ∃ w3, w3 = wr (th v m 0) (m + 3) (cpR (rw (th v m 0) (m + 1)) (rw (th v m 0) (m + 3)) 0 0 199) := ⟨_, rfl⟩
  have R3 : rowM (rw w3 (m + 1)) h c g t p M := by rw [e3, rw_wr_ne (by omega), rw_th (by omega)]; exact h1
  obtain ⟨f', R', s1, s2, s3⟩ := gm_measP hN hl R3 hs'
  have eW : (J (pW h c g t p) = J 0) ↔ pW h c g t p = 0 := J_eq (by unfold pW; split <;> (split <;> omega)) (by decide)
  unfold F_gm_period
  rw [grd_true _ hl.1]
  simp only [lt_def, si_th]
  unfold F_gm_makes
  rw [grd_true _ hl.1, gm_thinks (by omega) hl]
  simp only [Option.bind_some]
  rw [← e3]
  unfold F_gm_measures
  rw [if_neg n10, grd_true _ hl.1, s1]
  simp only [Option.bind_some]
  by_cases y : pW h c g t p = 0
  · obtain ⟨k11, k12, k13, kR⟩ := s3 y
    have eo : perO ((h, c, g, t, p, M), sv, ps, re, ca, ch) = (pM h c g t p 4, (peS (h, c, g, t, p, M), sv, keepP (h, c, g, t, p, M) ps, 0, 0, ch)) := if_pos y
    have rG := oN_rng (i := (h 2).toNat) hs'.2.2.1
    have g8' : sgK t p (3 * oN t p (h 2).toNat g + 2) g 8 = g 8 := (sgV_K hs'.2.2.1 (by omega)).2.1
    obtain ⟨v', d1, d2, d3, d4⟩ := gm_kept (N := N) (w := wr (wr w3 m f') (m + 1) R') (z := pM h c g t p) (bb := 1) (h' := fun k => if k = 0 then oN t p (h 2).toNat g else h k) (c' := ckK (oN t p (h 2).toNat g) c) (g' := sgK t p (3 * oN t p (h 2).toNat g + 2) g) (by omega) hR hs' hp
      (fun k hk => by rw [rw_wr_ne (by omega), rw_wr_ne (by omega), e3, rw_wr, cpR_lt hk, rw_th (by omega)])
      (by rw [rw_wr]; exact kR)
      (fun x x0 x1 x3 => by rw [rw_wr_ne x1, rw_wr_ne x0, e3, rw_wr_ne x3, rw_th x0])
      (by rw [e3]; rfl)
      (fun k hk => by rw [rw_wr_ne (by omega), rw_wr, s2 k (by omega), e3, rw_wr_ne (by omega)]; exact rw_th0 (by omega))
      (by rw [g8']; exact (stV_8 hs').2.2) hs'.1.2.2.2.2
      (by rw [rw_wr_ne (by omega), rw_wr, s2 10 (by omega), e3, rw_wr_ne (by omega)]; exact th10)
      (fun u hu hu1 x hx => by
        have um : ∀ k, 9 < k → rw u m k = f' k := fun k hk => by rw [hu k hk, rw_wr_ne (by omega), rw_wr]
        have u1 : ∀ k, k < 21 → rw u (m + 1) k = R' k := fun k hk => by rw [hu1 k hk, rw_wr]
        exact (gm_toldP (w := u) hN hl hs' y (by rw [um 11 (by decide)]; exact k11) (by rw [um 12 (by decide)]; exact k12) (by rw [um 13 (by decide)]; exact k13)
          (by rw [u1 1 (by decide), kR.1 1 (by decide)]; show J (ckK (oN t p (h 2).toNat g) c 0) = _; rw [(ckV_K hs'.2.1 (by omega)).2.2.2])
          (by rw [u1 4 (by decide), kR.1 4 (by decide)]; show J (sgK t p (3 * oN t p (h 2).toNat g + 2) g 4) = _; rw [sgK_4 hs'.2.2.1 (by omega)])
          (by rw [u1 5 (by decide), kR.1 5 (by decide)]; rfl) (by rw [u1 6 (by decide), kR.1 6 (by decide)]; rfl) (by rw [u1 7 (by decide), kR.1 7 (by decide)]; rfl) hx).1)
    rw [if_pos (eW.mpr y), d1, eo]
    exact ⟨v', rfl, d2, d3, d4⟩
  · have eo : perO ((h, c, g, t, p, M), sv, ps, re, ca, ch) = (-1, ((h, c, g, t, p, M), sv, ps, pW h c g t p, 0, ch)) := if_neg y
    rw [if_neg (fun z => y (eW.mp z)), eo]
    obtain ⟨v5, b1, b2⟩ := BK_mq (v := th v m 0) (m := m) (BK_wr (f := f') (R := R') (by rw [e3] at s2; exact s2) (BK_back (N := N) (S := S) (x := 0) hN hl))
    rw [← e3] at b1
    rw [b1]
    simp only [Option.bind_some]
    rw [gm_refuses hl]
    simp only [Option.bind_some]
    obtain ⟨d1, d2, d3⟩ := gm_backRefuses (x := pW h c g t p) (y := 0) hR hs (mqt_mq b2)
    exact ⟨_, rfl, d1, d2, d3⟩
end MGATE
