/-! Values with an ideal clock. -/
section IDEALV
variable {S : shp} {v : vl} {a b m N q : Nat} {h c g t p X : Nat → Int} {M : Nat → Nat → Int} {sv : Option sta} {ps : List sta} {re ca ch : Int}
def hZ (h : Nat → Int) : Nat → Int := fun j => if j = 3 then 0 else h j
def cZ (c : Nat → Int) : Nat → Int := fun j => if j = 3 then 0 else if j = 2 then 0 else if j = 1 then 0 else c j
theorem idV (hv : stV h c g t p M) : stV (hZ h) (cZ c) g t p M := by
  obtain ⟨⟨v0, v1, v2, v3, v5⟩, ⟨⟨b0, b1, b2, b3, b4, b5⟩, c4, c6⟩, hg, hu, hT, hM⟩ := hv
  have z99 : (-99 : Int) ≤ 0 ∧ (0 : Int) ≤ 99 := by decide
  have z1 : (-1 : Int) ≤ 0 ∧ (0 : Int) ≤ 1 := by decide
  have z1000 : (0 : Int) ≤ 0 ∧ (0 : Int) < 1000 := by decide
  exact ⟨⟨v0, v1, v2, z99, v5⟩, ⟨⟨b0, z99, z1, z1000, b4, b5⟩, c4, c6⟩, hg, hu, hT, hM⟩
def ivZ (h c g t p : Nat → Int) (b : Int) : Int := if b = 0 then fG (hZ h) (cZ c) g t p 4 else fP (hZ h) (cZ c) g t p 4
theorem gc_idealValue {x : Int} (hN : 7000000 ≤ N) (hw : wfS S) (hR : cR S v a (h, c, g, t, p, M) sv ps re ca ch q) (hx : x = 0 ∨ x = 1) :
    QD (F_gc_idealValue N a (J x) S v) (ivZ h c g t p x) (PC a (h, c, g, t, p, M) sv ps re ca ch q S v) := by
  obtain ⟨k0, g5, n0, -⟩ := cR_now hR
  obtain ⟨S1, v1, s1, s2, R1, w1, x1⟩ := fresh_R (N := N) (by omega) hw hR (Or.inl rfl)
  obtain ⟨b0, b6, b1, b7, bl, b8, b5⟩ := id s2.1.1
  have hs := cR_V hR
  have hI := idV hs
  obtain ⟨v2, ev⟩ : ∃ v2, v2 = wr (wr v1 (a + 17 + 1) (up (up (up (rw v1 (a + 17 + 1)) 1 (J 0)) 2 (J 0)) 3 (J 0))) (a + 17) (up (rw v1 (a + 17)) 3 (J 0)) := ⟨_, rfl⟩
  have F2 : fri (a + 17) 6 v1 v2 := by
    rw [ev]
    exact fri_tr (fri_wr (by omega)) (fri_wr (by omega))
  have M2 : stM S1 v2 (a + 17) (hZ h) (cZ c) g t p := by
    obtain ⟨l1, l2, l3, l4⟩ := id s2.1
    rw [ev]
    refine ⟨l1, ?_, ?_, sgW_ne (sgW_ne l4 (by omega)) (by omega)⟩
    · rw [rw_wr]; exact ag_up l2
    · rw [rw_wr_ne (by omega), rw_wr]; exact ag_up (ag_up (ag_up l3))
  have N2 : msR S1 v2 (a + 17 + 5) (hZ h 5) M := msR_fri s2.2 s2.1.1 F2
  have eS : F_ck_steady (a + 17 + 1) S1 v1 = some (wr v1 (a + 17 + 1) (up (up (up (rw v1 (a + 17 + 1)) 1 (J 0)) 2 (J 0)) 3 (J 0))) := by
    unfold F_ck_steady
    rw [grd_true _ b1]
    simp only [lt_def, si_wr, rw_wr, wr_wr]
  have n10 : ¬ J 1 = J 0 := by decide
  unfold F_gc_idealValue ivZ
  simp only [k0, grd_pos, (gr67 hR.1).1, Option.bind_some, s1, oc2, b0, b6, b1]
  rw [eS]
  simp only [Option.bind_some, lt_def, si_wr]
  rw [rw_wr_ne (show a + 17 ≠ a + 17 + 1 by omega), ← ev]
  have x2 := exi_tr x1 (exi_fri F2)
  rcases hx with hx | hx
  · rw [hx, if_pos rfl, if_pos rfl]
    obtain ⟨y1, y2⟩ := st_gate (G := (hZ h 1).toNat) hN w1 M2 N2 hI.2.1 hI.2.2.1 hI.1 (by have := hI.1.2.1; omega)
    unfold fG
    by_cases y : (tkN (hZ h 1).toNat (cZ c)) 4 ≤ 2000000
    · obtain ⟨S3, v3, t1, t2, t3, t4⟩ := y1 y
      have P := scr_P hR hw (Or.inl rfl) t2.1 (exi_tr x2 t4) (by decide) (by decide)
      have L : _ = some (J (mN (gM (hZ h) (cZ c) g t p) 4)) := st_latest_kp (w := 4) (h' := h) (show 100 ≤ N by omega) t2.1 (t2.2.1 5 (by decide)) hI.1.2.2.2.2 t3 hI.2.2.2.2.2 (gM_V hI.1 hI.2.1 hI.2.2.1 hI.2.2.2.1 hI.2.2.2.2.1 (gW_0.mpr y)) (by decide)
      rw [t1, if_pos (gW_0.mpr y)]
      simp only [Option.bind_some, if_true]
      rw [L]
      exact ⟨S3, v3, rfl, P⟩
    · obtain ⟨v3, t1, t2⟩ := y2 (by omega)
      rw [t1, if_neg (fun z => y (gW_0.mp z))]
      simp only [Option.bind_some, n10, if_false]
      exact ⟨S1, v3, rfl, scr_P hR hw (Or.inl rfl) s2.1.1 (exi_tr x2 (exi_fri t2)) (by decide) (by decide)⟩
  · rw [hx, if_neg n10, if_neg (by decide)]
    obtain ⟨y1, y2, y3⟩ := st_period (G := (hZ h 2).toNat) hN w1 M2 N2 hI.2.1 hI.2.2.1 hI.1 (by have := hI.1.2.2.1; omega)
    unfold fP
    by_cases y : pW (hZ h) (cZ c) g t p = 0
    · obtain ⟨o1, o2⟩ := pW_0.mp y
      obtain ⟨S3, v3, t1, t2, t3, t4⟩ := y1 o1 o2
      have P := scr_P hR hw (Or.inl rfl) t2.1 (exi_tr x2 t4) (by decide) (by decide)
      have L : _ = some (J (mN (pM (hZ h) (cZ c) g t p) 4)) := st_latest_kp (w := 4) (h' := h) (show 100 ≤ N by omega) t2.1 (t2.2.1 5 (by decide)) hI.1.2.2.2.2 t3 hI.2.2.2.2.2 (pM_V hI.1 hI.2.1 hI.2.2.1 y) (by decide)
      rw [t1, if_pos y]
      simp only [Option.bind_some, if_true]
      rw [L]
      exact ⟨S3, v3, rfl, P⟩
    · rw [if_neg y]
      have n30 : ¬ J 3 = J 0 := by decide
      by_cases o1 : oN t p (hZ h 2).toNat g = -1
      · have t1 := y3 o1
        have nn : ¬ (if sgK t p 6000002 g 0 = 0 then J 2 else J 1) = J 0 := by split <;> decide
        rw [t1]
        simp only [Option.bind_some]
        rw [if_neg nn]
        exact ⟨S1, v2, rfl, scr_P hR hw (Or.inl rfl) s2.1.1 x2 (by decide) (by decide)⟩
      · by_cases o2 : cO t p (hZ h 2).toNat (cZ c) g = 0
        · obtain ⟨v3, t1, t2⟩ := y2 o1 o2
          rw [t1]
          simp only [Option.bind_some, n30, if_false]
          exact ⟨S1, v3, rfl, scr_P hR hw (Or.inl rfl) s2.1.1 (exi_tr x2 (exi_fri t2)) (by decide) (by decide)⟩
        · exact absurd (pW_0.mpr ⟨o1, o2⟩) y
theorem rowM_id {R : Nat → Int32} (hR : rowM R h c g t p M) (h8 : g 8 ≤ 8) : rowM (up (up (up (up R 2 (J 0)) 3 (J 0)) 8 (J 0)) 7 (J 0)) (hZ h) (cZ c) g t p M := by
  obtain ⟨r1, r2, r3⟩ := hR
  have hi : ∀ k, 9 ≤ k → up (up (up (up R 2 (J 0)) 3 (J 0)) 8 (J 0)) 7 (J 0) k = R k := fun k hk => by
    rw [up_ne (by omega), up_ne (by omega), up_ne (by omega), up_ne (by omega)]
  refine ⟨fun k hk => ?_, fun i hi' => ?_, fun i hi' w hw => ?_⟩
  · match k, hk with
    | 0, _ => exact r1 0 (by decide)
    | 1, _ => exact r1 1 (by decide)
    | 2, _ => rfl
    | 3, _ => rfl
    | 4, _ => exact r1 4 (by decide)
    | 5, _ => exact r1 5 (by decide)
    | 6, _ => exact r1 6 (by decide)
    | 7, _ => rfl
    | 8, _ => rfl
    | 9, _ => exact r1 9 (by decide)
    | 10, _ => exact r1 10 (by decide)
    | 11, _ => exact r1 11 (by decide)
    | 12, _ => exact r1 12 (by decide)
    | 13, _ => exact r1 13 (by decide)
    | 14, _ => exact r1 14 (by decide)
    | 15, _ => exact r1 15 (by decide)
    | 16, _ => exact r1 16 (by decide)
    | 17, _ => exact r1 17 (by decide)
    | 18, _ => exact r1 18 (by decide)
    | 19, _ => exact r1 19 (by decide)
    | 20, _ => exact r1 20 (by decide)
    | 21, _ => exact r1 21 (by decide)
    | 22, _ => exact r1 22 (by decide)
    | k + 23, hk => exact absurd hk (by omega)
  · rw [hi _ (by omega), hi _ (by omega)]
    exact r2 i hi'
  · rw [hi _ (by omega)]
    exact r3 i hi' w hw
theorem gm_idealValue {x : Int} (hN : 7000000 ≤ N) (hR : dR S v m (h, c, g, t, p, M) sv ps re ca ch) (hs : stV h c g t p M) (hx : x = 0 ∨ x = 1) :
    QM (F_gm_idealValue N m (J x) S v) (.inr (ivZ h c g t p x)) (fun v' => mqt m v v' 0) := by
  obtain ⟨hl, h1, -⟩ := hR
  have hI := idV hs
  have n10 : ¬ J 1 = J 0 := by decide
  unfold F_gm_idealValue
  rw [grd_true _ hl.1]
  simp only [lt_def, si_th]
  rw [gm_thinks (by omega) hl]
  simp only [Option.bind_some, hl.2.1, hl.2.2.1, grd_pos]
  have h1' : rowM (rw (th v m 0) (m + 1)) h c g t p M := th_rowM h1
  obtain ⟨w3, e3⟩ : ∃ w3, w3 = wr (th v m 0) (m + 3) (cpR (rw (th v m 0) (m + 1)) (rw (th v m 0) (m + 3)) 0 0 199) := ⟨_, rfl⟩
  have R3 : rw w3 (m + 1) = rw (th v m 0) (m + 1) := by rw [e3]; exact rw_wr_ne (by omega)
  have main : BK m w3 (ivZ h c g t p x) ((F_gm_measures N m (J x) S (wr w3 (m + 1) (up (up (up (up (rw w3 (m + 1)) 2 (J 0)) 3 (J 0)) 8 (J 0)) 7 (J 0)))).bind fun (x11, w12) => (if x11 = (J 0) then (F_gm_madeValue m (J x) S w12).bind fun x13 => (F_gm_back N m x13 S w12).bind fun (x14, w15) => some ((x14, w15)) else (F_gm_back N m (J (-1)) S w12).bind fun (x16, w17) => some ((x16, w17)))) := by
    refine BK_wr1 (R := up (up (up (up (rw w3 (m + 1)) 2 (J 0)) 3 (J 0)) 8 (J 0)) 7 (J 0)) ?_
    obtain ⟨w4, e4⟩ : ∃ w4, w4 = wr w3 (m + 1) (up (up (up (up (rw w3 (m + 1)) 2 (J 0)) 3 (J 0)) 8 (J 0)) 7 (J 0)) := ⟨_, rfl⟩
    have R4 : rowM (rw w4 (m + 1)) (hZ h) (cZ c) g t p M := by
      rw [e4, rw_wr, R3]
      exact rowM_id h1' (stV_8 hs).2.2
    rw [← e4]
    unfold F_gm_measures ivZ
    rcases hx with hx | hx
    · obtain ⟨f', R', s1, s2, s3⟩ := gm_measG hN hl R4 hI
      rw [hx, if_pos rfl, grd_true _ hl.1, s1, if_pos rfl]
      simp only [Option.bind_some]
      have eW : (J (gW (hZ h) (cZ c)) = J 0) ↔ gW (hZ h) (cZ c) = 0 := J_eq (by unfold gW; split <;> omega) (by decide)
      unfold fG
      refine BK_wr (R := R') s2 ?_
      by_cases q : gW (hZ h) (cZ c) = 0
      · obtain ⟨k11, k12, k13, -, -, kR⟩ := s3 q
        have t1 := (gm_toldG (w := wr (wr w4 m f') (m + 1) R') (h' := h) (c' := c) (g' := g) (x := 4) hN hl hI q (by rw [rw_wr_ne (by omega), rw_wr]; exact k11) (by rw [rw_wr_ne (by omega), rw_wr]; exact k12) (by rw [rw_wr_ne (by omega), rw_wr]; exact k13)
          (by rw [rw_wr, kR.1 1 (by decide)]; show J ((tkN ((hZ h 1).toNat + 1) (cZ c)) 0) = _; rw [(tkN_inv hI.2.1.1 ((hZ h 1).toNat + 1)).2.2.2.2.1])
          (by rw [rw_wr, kR.1 4 (by decide)]; show J (gG t p (hZ h 1).toNat (cZ c) g 4) = _; rw [show gG t p (hZ h 1).toNat (cZ c) g 4 = g 4 from sgK_4 hI.2.2.1 (by have := gW_0.mp q; omega)])
          (by rw [rw_wr, kR.1 5 (by decide)]; rfl) (by rw [rw_wr, kR.1 6 (by decide)]; rfl) (by rw [rw_wr, kR.1 7 (by decide)]; rfl) (by decide)).2
        rw [if_pos (eW.mpr q), if_pos q, t1]
        simp only [Option.bind_some]
        exact BK_bind (BK_back hN hl)
      · rw [if_neg (fun z => q (eW.mp z)), if_neg q]
        exact BK_bind (BK_back hN hl)
    · obtain ⟨f', R', s1, s2, s3⟩ := gm_measP hN hl R4 hI
      rw [hx, if_neg n10, grd_true _ hl.1, s1, if_neg (by decide)]
      simp only [Option.bind_some]
      have eW : (J (pW (hZ h) (cZ c) g t p) = J 0) ↔ pW (hZ h) (cZ c) g t p = 0 := J_eq (by unfold pW; split <;> (split <;> omega)) (by decide)
      unfold fP
      refine BK_wr (R := R') s2 ?_
      by_cases q : pW (hZ h) (cZ c) g t p = 0
      · obtain ⟨k11, k12, k13, kR⟩ := s3 q
        have rG := oN_rng (i := (hZ h 2).toNat) hI.2.2.1
        have t1 := (gm_toldP (w := wr (wr w4 m f') (m + 1) R') (x := 4) hN hl hI q (by rw [rw_wr_ne (by omega), rw_wr]; exact k11) (by rw [rw_wr_ne (by omega), rw_wr]; exact k12) (by rw [rw_wr_ne (by omega), rw_wr]; exact k13)
          (by rw [rw_wr, kR.1 1 (by decide)]; show J (ckK (oN t p (hZ h 2).toNat g) (cZ c) 0) = _; rw [(ckV_K hI.2.1 (by omega)).2.2.2])
          (by rw [rw_wr, kR.1 4 (by decide)]; show J (sgK t p (3 * oN t p (hZ h 2).toNat g + 2) g 4) = _; rw [sgK_4 hI.2.2.1 (by omega)])
          (by rw [rw_wr, kR.1 5 (by decide)]; rfl) (by rw [rw_wr, kR.1 6 (by decide)]; rfl) (by rw [rw_wr, kR.1 7 (by decide)]; rfl) (by decide)).2
        rw [if_pos (eW.mpr q), if_pos q, t1]
        simp only [Option.bind_some]
        exact BK_bind (BK_back hN hl)
      · rw [if_neg (fun z => q (eW.mp z)), if_neg q]
        exact BK_bind (BK_back hN hl)
  rw [e3] at main
  obtain ⟨v', e1, e2⟩ := BK_mq main
  refine ⟨v', ?_, mqt_mq e2⟩
  simp only [lt_def, si_wr, rw_wr, wr_wr] at e1 ⊢
  exact e1
end IDEALV
