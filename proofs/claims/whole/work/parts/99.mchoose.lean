/-! The model's choice. -/
section MCHOOSE
variable {S : shp} {v : vl} {a b m N q : Nat} {h c g t p X : Nat → Int} {M : Nat → Nat → Int} {now : sta} {sv : Option sta} {ps : List sta} {re ca ch : Int}
/-- the model measures, and comes back to the row that it set aside -/
theorem gm_mback {w : vl} {f' R' : Nat → Int32} {x : Int} (hN : 7000000 ≤ N) (hl : mdL S m) (ha : ∀ k, k < 199 → rw w (m + 3) k = rw v (m + 1) k) (h2 : w.2 = v.2) (hf : ∀ y, y ≠ m → y ≠ m + 1 → y ≠ m + 3 → rw w y = rw v y) (he : eqX (rw w m) f') :
    ∃ u, F_gm_back N m (J x) S (wr (wr w m f') (m + 1) R') = some (J x, u) ∧ rw u m = f' ∧ u.2 = v.2 ∧ (∀ y, y ≠ m → y ≠ m + 1 → y ≠ m + 3 → rw u y = rw v y) ∧ rw u (m + 3) = rw w (m + 3) ∧ ∀ k, k < 199 → rw u (m + 1) k = rw v (m + 1) k := by
  refine ⟨_, gm_back (by omega) hl, ?_, h2, fun y y0 y1 y3 => ?_, ?_, fun k hk => ?_⟩
  · rw [rw_wr_ne (by omega), rw_wr_ne (by omega), rw_wr]
  · rw [rw_wr_ne y1, rw_wr_ne y1, rw_wr_ne y0, hf y y0 y1 y3]
  · rw [rw_wr_ne (by omega), rw_wr_ne (by omega), rw_wr_ne (by omega)]
  · rw [rw_wr, cpR_lt hk, rw_wr_ne (by omega), rw_wr_ne (by omega), ha k hk]
/-- why it was chosen is set -/
theorem dR_ch {x : Int} (hR : dR S v m now sv ps re ca ch) (hp : psV ps) : dR S (wr v m (up (rw v m) 9 (J x))) m now sv ps re ca x := by
  obtain ⟨hl, h1, hsv, h5, h6, h7, h8, h9⟩ := id hR
  refine dR_mk hR (by rw [rw_wr_ne (by omega)]; exact h1) (rw_wr_ne (by omega)) (by rw [rw_wr, up_ne (by decide)]) ⟨by rw [rw_wr, up_ne (by decide)]; exact h5, hp.1, fun i s his => by rw [rw_wr_ne (by omega)]; exact ⟨hp.2 i s his, h6 i s his⟩⟩ (by rw [rw_wr, up_ne (by decide)]; exact h7) (by rw [rw_wr, up_ne (by decide)]; exact h8) (by rw [rw_wr, up_same])
theorem gm_chooses0 {x : Int} (hl : mdL S m) (h10 : rw v m 10 = J 0) : F_gm_chooses N m (J x) (J 0) S v = F_gm_gate N m S (wr v m (up (rw v m) 9 (J x))) := by
  have e : th (wr v m (up (rw v m) 9 (J x))) m 0 = wr v m (up (rw v m) 9 (J x)) := by
    unfold th
    rw [rw_wr, wr_wr]
    congr 1
    funext k
    by_cases k10 : k = 10
    · subst k10
      rw [up_same, up_ne (by decide), h10]
    · rw [up_ne k10]
  unfold F_gm_chooses F_gm_gate
  simp only [lt_def, si_wr]
  rw [← si_wr (v := wr v m (up (rw v m) 9 (J x))), si_th, e]
theorem gm_chooses1 {x : Int} (hl : mdL S m) (h10 : rw v m 10 = J 0) : F_gm_chooses N m (J x) (J 1) S v = F_gm_period N m S (wr v m (up (rw v m) 9 (J x))) := by
  have e : th (wr v m (up (rw v m) 9 (J x))) m 0 = wr v m (up (rw v m) 9 (J x)) := by
    unfold th
    rw [rw_wr, wr_wr]
    congr 1
    funext k
    by_cases k10 : k = 10
    · subst k10
      rw [up_same, up_ne (by decide), h10]
    · rw [up_ne k10]
  unfold F_gm_chooses F_gm_period
  simp only [lt_def, si_wr]
  rw [← si_wr (v := wr v m (up (rw v m) 9 (J x))), si_th, e]
theorem gm_choose (hN : 7000000 ≤ N) (hR : dR S v m now sv ps re ca ch) (hs : sV now) (hp : psV ps) :
    UM (F_gm_choose N m S v) (now, sv, ps, re, ca, ch) (.inr (choO (now, sv, ps, re, ca, ch))) S v m := by
  obtain ⟨h, c, g, t, p, M⟩ := now
  have hl := hR.1
  have h1 : rowM (rw v (m + 1)) h c g t p M := hR.2.1
  have hs' : stV h c g t p M := hs
  have h8 := (stV_8 hs').2.2
  have h5 := hs'.1.2.2.2.2.2
  obtain ⟨w3, e3⟩ : ∃ w3, w3 = wr (th v m 0) (m + 3) (cpR (rw (th v m 0) (m + 1)) (rw (th v m 0) (m + 3)) 0 0 199) := ⟨_, rfl⟩
  have R3 : rowM (rw w3 (m + 1)) h c g t p M := by rw [e3, rw_wr_ne (by omega), rw_th (by omega)]; exact h1
  have a3 : ∀ k, k < 199 → rw w3 (m + 3) k = rw v (m + 1) k := fun k hk => by rw [e3, rw_wr, cpR_lt hk, rw_th (by omega)]
  have m3 : rw w3 m = rw (th v m 0) m := by rw [e3, rw_wr_ne (by omega)]
  obtain ⟨f', R', s1, s2, s3⟩ := gm_measG hN hl R3 hs'
  obtain ⟨w7, b1, b2, b3, b4, b5, b6⟩ := gm_mback (v := v) (w := w3) (f' := f') (R' := R') (x := gW h c) (N := N) hN hl a3 (by rw [e3]; rfl) (fun y y0 y1 y3 => by rw [e3, rw_wr_ne y3, rw_th y0]) s2
  have R7 : rowM (rw w7 (m + 1)) h c g t p M := rowM_ag h1 h8 h5 b6
  obtain ⟨f2, R2, d1, d2, d3⟩ := gm_measP hN hl R7 hs'
  obtain ⟨w11, c1, c2, c3, c4, c5, c6⟩ := gm_mback (v := v) (w := w7) (f' := f2) (R' := R2) (x := pW h c g t p) (N := N) hN hl (fun k hk => by rw [b5]; exact a3 k hk) b3 b4 d2
  have eX : ∀ k, k < 11 ∨ 15 < k → f2 k = rw (th v m 0) m k := fun k hk => by
    rw [d2 k hk, b2, s2 k hk, m3]
  have mq11 : mqt m v w11 0 := ⟨c3, c4, fun k hk => by rw [c2, eX k (by omega), rw_th0 (by omega)], c6, by rw [c2, eX 10 (by omega)]; exact th10⟩
  have D11 := dR_mqt hR hs mq11
  have eW : (J (gW h c) = J 0) ↔ gW h c = 0 := J_eq (by unfold gW; split <;> omega) (by decide)
  have eP : (J (pW h c g t p) = J 0) ↔ pW h c g t p = 0 := J_eq (by unfold pW; split <;> (split <;> omega)) (by decide)
  -- the way that is chosen
  have way : ∀ x : Int, x = chsZ h c g t p → x ≠ 0 → (¬ (x = 2 ∨ x = 5) → UM (F_gm_chooses N m (J x) (J 0) S w11) ((h, c, g, t, p, M), sv, ps, re, ca, ch) (.inr (choO ((h, c, g, t, p, M), sv, ps, re, ca, ch))) S v m) ∧ ((x = 2 ∨ x = 5) → UM (F_gm_chooses N m (J x) (J 1) S w11) ((h, c, g, t, p, M), sv, ps, re, ca, ch) (.inr (choO ((h, c, g, t, p, M), sv, ps, re, ca, ch))) S v m) := by
    intro x hx x0
    have D12 := dR_ch (x := x) D11 hp
    have M12 : mch m v (wr w11 m (up (rw w11 m) 9 (J x))) := mch_tr (mch_mqt mq11) (mch_m (fun k hk => up_ne (by omega)))
    rw [hx] at x0
    refine ⟨fun n25 => ?_, fun y25 => ?_⟩
    · obtain ⟨v', u1, u2, u3, u4⟩ := gm_gate hN D12 hs hp
      have eo : choO ((h, c, g, t, p, M), sv, ps, re, ca, ch) = gateO ((h, c, g, t, p, M), sv, ps, re, ca, x) := by
        rw [hx] at n25 ⊢
        exact (if_neg x0).trans (if_neg n25)
      rw [gm_chooses0 hl mq11.2.2.2.2, eo]
      exact ⟨v', u1, u2, mch_tr M12 u3, u4⟩
    · obtain ⟨v', u1, u2, u3, u4⟩ := gm_period hN D12 hs hp
      have eo : choO ((h, c, g, t, p, M), sv, ps, re, ca, ch) = perO ((h, c, g, t, p, M), sv, ps, re, ca, x) := by
        rw [hx] at y25 ⊢
        exact (if_neg x0).trans (if_pos y25)
      rw [gm_chooses1 hl mq11.2.2.2.2, eo]
      exact ⟨v', u1, u2, mch_tr M12 u3, u4⟩
  have wrap : ∀ F : Option (Int32 × vl), (F.bind fun (x, w) => some (x, w)) = F := fun F => by cases F <;> rfl
  unfold F_gm_choose
  rw [grd_true _ hl.1]
  simp only [lt_def, si_th]
  rw [gm_thinks (by omega) hl]
  simp only [Option.bind_some]
  rw [← e3, s1]
  simp only [Option.bind_some]
  rw [b1]
  simp only [Option.bind_some]
  rw [d1]
  simp only [Option.bind_some]
  rw [c1]
  simp only [Option.bind_some, gi_x]
  rw [b2, c2]
  by_cases y : gW h c = 0
  · rw [if_pos (eW.mpr y)]
    unfold K_gm_choose_58
    by_cases o : pW h c g t p = 0
    · have gV := gM_V hs'.1 hs'.2.1 hs'.2.2.1 hs'.2.2.2.1 hs'.2.2.2.2.1 y
      have pV := pM_V hs'.1 hs'.2.1 hs'.2.2.1 o
      have q1 : f' 13 = J (gM h c g t p 3) := (s3 y).2.2.1
      have q2 : f2 13 = J (pM h c g t p 3) := (d3 o).2.2.1
      have r1 := gV.2.2.2.1
      have r2 := pV.2.2.2.1
      rw [if_pos (eP.mpr o), if_pos (eW.mpr y), q1, q2]
      by_cases a1 : pM h c g t p 3 < gM h c g t p 3
      · have hx : (1 : Int) = chsZ h c g t p := by unfold chsZ; rw [if_pos y, if_pos o, if_pos a1]
        rw [if_neg (fun z => by have := (J_eq (by omega) (by omega)).mp z; omega), if_pos ((J_lt (by omega) (by omega)).mpr a1), grd_true _ hl.1, wrap]
        exact (way 1 hx (by decide)).1 (by decide)
      · by_cases a2 : gM h c g t p 3 < pM h c g t p 3
        · have hx : (2 : Int) = chsZ h c g t p := by unfold chsZ; rw [if_pos y, if_pos o, if_neg a1, if_pos a2]
          rw [if_neg (fun z => by have := (J_eq (by omega) (by omega)).mp z; omega), if_neg (fun z => a1 ((J_lt (by omega) (by omega)).mp z)), grd_true _ hl.1, wrap]
          exact (way 2 hx (by decide)).2 (by decide)
        · have hx : (3 : Int) = chsZ h c g t p := by unfold chsZ; rw [if_pos y, if_pos o, if_neg a1, if_neg a2]
          rw [if_pos (by rw [show gM h c g t p 3 = pM h c g t p 3 by omega]), grd_true _ hl.1, wrap]
          exact (way 3 hx (by decide)).1 (by decide)
    · have hx : (4 : Int) = chsZ h c g t p := by unfold chsZ; rw [if_pos y, if_neg o]
      rw [if_neg (fun z => o (eP.mp z)), grd_true _ hl.1, wrap]
      exact (way 4 hx (by decide)).1 (by decide)
  · rw [if_neg (fun z => y (eW.mp z))]
    by_cases o : pW h c g t p = 0
    · have hx : (5 : Int) = chsZ h c g t p := by unfold chsZ; rw [if_neg y, if_pos o]
      rw [if_pos (eP.mpr o)]
      unfold K_gm_choose_58
      rw [if_pos (eP.mpr o), if_neg (fun z => y (eW.mp z)), grd_true _ hl.1, wrap]
      exact (way 5 hx (by decide)).2 (by decide)
    · have hx : chsZ h c g t p = 0 := by unfold chsZ; rw [if_neg y, if_neg o]
      have eo : choO ((h, c, g, t, p, M), sv, ps, re, ca, ch) = (-1, ((h, c, g, t, p, M), sv, ps, gW h c, pW h c g t p, 0)) := if_pos hx
      have D12 := dR_ch (x := 0) D11 hp
      have M12 : mch m v (wr w11 m (up (rw w11 m) 9 (J 0))) := mch_tr (mch_mqt mq11) (mch_m (fun k hk => up_ne (by omega)))
      have Q : mqt m (wr w11 m (up (rw w11 m) 9 (J 0))) (wr w11 m (up (rw w11 m) 9 (J 0))) 0 := ⟨rfl, fun _ _ _ _ => rfl, fun _ _ => rfl, fun _ _ => rfl, by rw [rw_wr, up_ne (by decide)]; exact mq11.2.2.2.2⟩
      obtain ⟨d1', d2', d3'⟩ := gm_backRefuses (x := gW h c) (y := pW h c g t p) D12 hs Q
      rw [if_neg (fun z => o (eP.mp z)), eo]
      simp only [lt_def, si_wr]
      rw [gm_refuses hl]
      exact ⟨_, rfl, d1', mch_tr M12 d2', d3'⟩
end MCHOOSE
