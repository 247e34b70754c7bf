/-! The law's acts. -/
section LAWACTS
def DD (j : Nat) : Int := 1000 + 35000 * j
/-- what holds between two acts, j of them done -/
def LJ (S : shp) (v : vl) (o a p0 n : Nat) (X : Nat → Int) (j : Nat) : Prop := ∃ (h c g : Nat → Int) (M : Nat → Nat → Int) (sv : Option sta) (ps : List sta) (re ca ch : Int), wfS S ∧ cR S v a (h, c, g, mt X, mp X, M) sv ps re ca ch j ∧ lwJ S v o X h c g ∧ rB X ∧ (auZ g ∧ sgX (mt X) (mp X) g) ∧ (c 0 ≤ 41 ∧ h 1 ≤ 32 ∧ h 2 ≤ 32) ∧ (h 0 ≤ DD j ∧ c 4 ≤ DD j + 50 ∧ g 1 ≤ DD j + 64) ∧ (o + 3 ≤ a ∧ tPs S v a) ∧ kin S p0 = some (11, n) ∧ p0 < o
/-- an act's cost -/
def gws (S S' : shp) : Prop := (cn S ≤ cn S' ∧ cn S' ≤ cn S + 20) ∧ cz S ≤ cz S' ∧ cz S' ≤ cz S + 400
variable {S S' : shp} {v v' : vl} {a o p0 n N q j k l : Nat} {h c g t p X : Nat → Int} {M : Nat → Nat → Int} {sv : Option sta} {ps : List sta} {re ca ch T : Int}
theorem gws_exg (he : exg a 20 400 S v S' v') : gws S S' := by
  obtain ⟨-, -, -, -, -, x6, x7⟩ := he
  exact ⟨x6, x7.1, x7.2⟩
theorem tPs_fle {e : Nat} (hT : tPs S v a) (hl : lwL S o) (hf : fle o e v v') : tPs S v' a := by
  obtain ⟨t1, t2, t3⟩ := hT
  have ne : kad S 0 ≠ o := fun e => by rw [e, hl.1] at t1; cases t1
  exact ⟨t1, t2, fun i hi => by rw [(hf.1 _ ne).1]; exact t3 i hi⟩
theorem lwR_set {k : Nat} {x : Int32} (hR : lwR v o X T c g) (hk : k = 10 ∨ k = 11 ∨ k = 12) : lwR (wr v o (up (rw v o) k x)) o X T c g := by
  obtain ⟨⟨⟨n0, n1, n4, n5, n6, n7, n8, n9⟩, n13, n14, n15, n18, n19⟩, ⟨s, i, q1, q2, q3⟩, h3, h4⟩ := hR
  have e : ∀ y, y < 10 ∨ 12 < y → up (rw v o) k x y = rw v o y := fun y hy => up_ne (by omega)
  refine ⟨?_, ⟨s, i, ?_, ?_, q3⟩, h3, h4.1, fun y hy => ?_⟩
  · rw [rw_wr]
    exact ⟨⟨(e 0 (by decide)).trans n0, (e 1 (by decide)).trans n1, (e 4 (by decide)).trans n4, (e 5 (by decide)).trans n5, (e 6 (by decide)).trans n6, (e 7 (by decide)).trans n7, (e 8 (by decide)).trans n8, (e 9 (by decide)).trans n9⟩, (e 13 (by decide)).trans n13, (e 14 (by decide)).trans n14, (e 15 (by decide)).trans n15, (e 18 (by decide)).trans n18, (e 19 (by decide)).trans n19⟩
  · rw [rw_wr, e 16 (by decide)]; exact q1
  · rw [rw_wr, e 17 (by decide)]; exact q2
  · rw [rw_wr_ne (by omega), rw_wr_ne (by omega)]; exact h4.2 y hy
/-- the script stays where it was -/
theorem p0_exg (hp : kin S p0 = some (11, n)) (hw : wfS S) (he : exg a k l S v S' v') : kin S' p0 = some (11, n) := (he.2.2.1 _ (kin_lt hw hp)).trans hp
theorem kp_last {m : Int} {z : Nat → Int} (hm : 0 ≤ m ∧ m ≤ 20) : kpM m M z (kpN m - 1).toNat = z ∧ 1 ≤ kpN m ∧ kpN m ≤ 20 := by
  unfold kpM kpN
  by_cases h : m < 20
  · simp only [if_pos h]
    refine ⟨?_, by omega, by omega⟩
    rw [if_pos (by omega)]
  · simp only [if_neg h]
    exact ⟨rfl, by decide, by decide⟩
theorem act_gate (hN : 13000000 ≤ N) (hj : j ≤ 23) (H : LJ S v o a p0 n X j) : ∃ S' v', K_lw_act_48 N S v o a = some (J 1, S', v') ∧ LJ S' v' o a p0 n X (j + 1) ∧ gws S S' := by
  obtain ⟨h, c, g, M, sv, ps, re, ca, ch, hw, hR, ⟨hl, hL, r10, r11, r12⟩, rX, ⟨hau, hX⟩, ⟨c41, h1, h2⟩, ⟨d0, d4, d1⟩, ⟨hoa, hT⟩, hp0, hpo⟩ := H
  have hs := cR_V hR
  have hI := stV_I hs rX
  obtain ⟨⟨v0, v1, v2, v3, v5⟩, ⟨c1, c2, c3⟩, ⟨⟨u, hJ, u0, u1⟩, s6, s7⟩, hu, hT0, hMV⟩ := id hs
  have hDj : DD (j + 1) = DD j + 35000 := by unfold DD; omega
  have hD : 1000 ≤ DD j ∧ DD j ≤ 806000 := by unfold DD; omega
  obtain ⟨G, hGe⟩ : ∃ G : Nat, h 1 = (G : Int) + 1 := ⟨(h 1 - 1).toNat, by omega⟩
  have hGn : (h 1).toNat = G + 1 := by omega
  have t42 := tkN42 c1 c41 (G + 1)
  have t42' := tkN42 c1 c41 (G + 2)
  have tinv := tkN_inv c1 (G + 2)
  have tinv1 := tkN_inv c1 (G + 1)
  have b4 := c1.2.2.2.2.1
  obtain ⟨w3, e1, e2, e3, e4, e5⟩ := lw_waitsC hN hl hL hI (by omega)
  have hI3 : mdI X (c 4) (tkZ c) (sgK (mt X) (mp X) (3 * c 4) g) := mdI_gG hI (k := 0) (show c 4 ≤ 2000000 by omega)
  have k1 := keS_nn hI3
  have kz := tkZ_inv c1
  obtain ⟨w4, T', c', g', f1, f2, f3, f4, f5, -, f7⟩ := lw_countsCL (N := N) hl (12500000 : Nat) N (G + 1) w3 (c 4) 0 (tkZ c) _ (by omega) (by omega) e2 hI3 e4 (fun k hk => by rw [tkN_s, ← hk]; omega) (by omega)
  obtain ⟨eT, ec, eg⟩ := f7 G rfl
  rw [tkN_s] at eT ec eg
  have hGG : g' = gG (mt X) (mp X) (G + 1) c g := eg.trans (sgK_K hJ u0 u1 (by omega) (by omega))
  rw [Int.zero_add] at f4
  have egO : g' 3 - sgK (mt X) (mp X) (3 * c 4) g 3 = gO (mt X) (mp X) (G + 1) c g := by rw [hGG]; rfl
  rw [egO] at f4
  rw [eT] at f2 f3
  rw [ec, hGG] at f2
  have R4 := cR_fle (cR_fle hR hl e5 (by omega)) hl f5 (by omega)
  have hW : gW h c = 0 := gW_0.mpr (by rw [hGn]; omega)
  obtain ⟨S', v', y1, w', y2, y3⟩ := gc_gate (N := N) (by omega) hw R4 (by omega)
  have eO : gateO ((h, c, g, mt X, mp X, M), sv, ps, re, ca, ch) = (gM h c g (mt X) (mp X) 4, (gaS (h, c, g, mt X, mp X, M), sv, keepP (h, c, g, mt X, mp X, M) ps, 0, 0, ch)) := if_pos hW
  rw [eO] at y1 y2
  have R5 : cR S' v' a (hG h ((tkN (h 1).toNat c) 4), tkN ((h 1).toNat + 1) c, gG (mt X) (mp X) (h 1).toNat c g, mt X, mp X, kpM (h 5) M (gM h c g (mt X) (mp X))) sv (keepP (h, c, g, mt X, mp X, M) ps) 0 0 ch (j + 1) := y2
  obtain ⟨x0, x1, x2, x3⟩ := rows_exg hl hw hoa y3
  have hl' := lwL_exg hl hw hoa y3
  have f2' := lwR_exg f2 hl hw hoa y3
  have w10 : rw w4 o 10 = J (h 1) := ((f5.2 10 (Or.inl rfl)).trans (e5.2 10 (Or.inl rfl))).trans r10
  have w11 : rw w4 o 11 = J (h 2) := ((f5.2 11 (Or.inr (Or.inl rfl))).trans (e5.2 11 (Or.inr (Or.inl rfl)))).trans r11
  have w12 : rw w4 o 12 = J (h 3) := ((f5.2 12 (Or.inr (Or.inr (Or.inl rfl)))).trans (e5.2 12 (Or.inr (Or.inr (Or.inl rfl))))).trans r12
  have w21 : rw w4 o 21 = J (c 4) := (f5.2 21 (by omega)).trans e3
  have kl := kp_last (M := M) (z := gM h c g (mt X) (mp X)) v5
  have hzV := gM_V ⟨v0, v1, v2, v3, v5⟩ ⟨c1, c2, c3⟩ ⟨⟨u, hJ, u0, u1⟩, s6, s7⟩ hu hT0 hW
  have gk := gG_V (G := G + 1) c1 ⟨⟨u, hJ, u0, u1⟩, s6, s7⟩ (show (tkN (G + 1) c) 4 ≤ 2000000 by omega)
  have h4 := hJ.1.2.2.2.2.1
  have hval : F_lw_value o (J 0) S' v' = some (J (gM h c g (mt X) (mp X) 4)) := by
    unfold F_lw_value
    rw [if_pos rfl, grd_true _ hl'.1, if_pos rfl]
    have z23 : gi v' o 23 = J (gO (mt X) (mp X) (h 1).toNat c g) := by rw [gi_rw, x0, hGn]; exact f4
    have z10 : gi v' o 10 = J (h 1) := by rw [gi_rw, x0]; exact w10
    rw [z23, z10]
    refine lw_val35 hl' (f2'.1.1.1.trans (by rw [tinv.2.2.2.2.1])) (f2'.1.1.2.2.2.2.2.2.2.trans (by rw [gk.2.1])) (by rw [x0]; exact w12) c1.1 h4 (by rw [hGn]; exact gk.2.2.2) (by omega) v3
  have made := lw_made (N := N) (by omega) R5 hl' (z := gM h c g (mt X) (mp X)) kl.2 kl.1 hzV hval (by rw [x0]; exact w21) (by rw [x0]; show rw w4 o 22 = J ((tkN (h 1).toNat c) 4); rw [hGn]; exact f3) (by rw [x0]; show rw w4 o 23 = J (gO (mt X) (mp X) (h 1).toNat c g); rw [hGn]; exact f4) (by rw [x0]; exact w10) (by rw [x0]; exact w12)
  refine ⟨S', v', ?_, ?_, gws_exg y3⟩
  · unfold K_lw_act_48
    rw [grd_true _ hl.1, e1]
    simp only [Option.bind_some]
    have z10 : gi w3 o 10 = J ((G + 1 : Nat) : Int) := by
      rw [gi_rw, e5.2 10 (Or.inl rfl), r10, hGe]; rfl
    have ec : F_lw_counts N o (J 2) (J 4) (gi w3 o 10) S w3 = some w4 := by rw [z10]; exact f1
    rw [ec]
    simp only [Option.bind_some]
    rw [grd_true _ R4.1.1.1, y1]
    simp only [Option.bind_some]
    have made' : F_lw_isMade N o a (J 0) (J (gM h c g (mt X) (mp X) 4)) S' v' = some (J 1) := made
    rw [made']
    simp only [Option.bind_some]
    rw [grd_true _ (by decide)]
  · rw [hGn] at R5
    have sX := sgX_K (K := 3 * (tkN (G + 1) c) 4) (B := DD j + 2000) hJ u0 u1 (by omega) hX (by omega) (by omega) (by omega)
    refine ⟨_, _, _, _, _, _, _, _, _, w', R5, ⟨hl', f2', by rw [x0]; exact w10, by rw [x0]; exact w11, by rw [x0]; exact w12⟩, rX, ⟨auZ_K hJ u0 u1 (by omega) hau, sX.1⟩, ⟨by rw [tinv.2.2.2.2.1]; exact c41, h1, h2⟩, ⟨?_, ?_, ?_⟩, ⟨hoa, tPs_exg (tPs_fle (tPs_fle hT hl e5) hl f5) hw y3⟩, p0_exg hp0 hw y3, hpo⟩
    · show (tkN (G + 1) c) 4 ≤ DD (j + 1)
      omega
    · show (tkN (G + 2) c) 4 ≤ DD (j + 1) + 50
      omega
    · have := sX.2
      show gG (mt X) (mp X) (G + 1) c g 1 ≤ DD (j + 1) + 64
      have e : gG (mt X) (mp X) (G + 1) c g = sgK (mt X) (mp X) (3 * (tkN (G + 1) c) 4) g := rfl
      rw [e]
      omega
/-- outputs behind the first -/
theorem oN_tail {u : Int} {i : Nat} (hJ : sgJ u t p g) (hu : 0 ≤ u) (hu2 : u ≤ 2100000) (h : oN t p 0 g ≠ -1) : oN t p i (sgK t p (3 * oN t p 0 g + 2) g) = oN t p (i + 1) g := by
  obtain ⟨k1, k2, k3⟩ := oN_k hJ 0
  obtain ⟨e3, e5, e4, -⟩ := oN_at hJ hu hu2 h
  have h4 := hJ.1.2.2.2.2.1
  have m1 : ((i : Int) + 1) * g 4 = (i : Int) * g 4 + g 4 := by rw [Int.add_mul, Int.one_mul]
  have m2 : (((i + 1 : Nat) : Int) + 1) * g 4 = (i : Int) * g 4 + g 4 + g 4 := by rw [show ((i + 1 : Nat) : Int) + 1 = ((i : Int) + 1) + 1 by omega, Int.add_mul, Int.one_mul, m1]
  have m0 : (((0 : Nat) : Int) + 1) * g 4 = g 4 := by rw [show ((0 : Nat) : Int) + 1 = 1 by decide, Int.one_mul]
  have hi := Int.mul_nonneg (show (0 : Int) ≤ i by omega) (show 0 ≤ g 4 by omega)
  have := eT_split _ ((((0 : Nat) : Int) + 1) * g 4 - g 5) ((((i + 1 : Nat) : Int) + 1) * g 4 - g 5) u g hJ hu (fuel6 _) k1 (by omega) h
  unfold oN at e5 e4 ⊢
  rw [this, e5, e4]
  rw [show (((i + 1 : Nat) : Int) + 1) * g 4 - g 5 - ((((0 : Nat) : Int) + 1) * g 4 - g 5) = ((i : Int) + 1) * g 4 - 0 by omega]
theorem act_per (hN : 13000000 ≤ N) (hj : j ≤ 23) (H : LJ S v o a p0 n X j) : ∃ S' v', K_lw_act_74 N S v o a = some (J 1, S', v') ∧ LJ S' v' o a p0 n X (j + 1) ∧ gws S S' := by
  obtain ⟨h, c, g, M, sv, ps, re, ca, ch, hw, hR, ⟨hl, hL, r10, r11, r12⟩, rX, ⟨hau, hX⟩, ⟨c41, h1, h2⟩, ⟨d0, d4, d1⟩, ⟨hoa, hT⟩, hp0, hpo⟩ := H
  have hs := cR_V hR
  have hI := stV_I hs rX
  have k0 := hR.1.1.1
  obtain ⟨⟨v0, v1, v2, v3, v5⟩, ⟨c1, c2, c3⟩, ⟨⟨u, hJ, u0, u1⟩, s6, s7⟩, hu, hT0, hMV⟩ := id hs
  have hDj : DD (j + 1) = DD j + 35000 := by unfold DD; omega
  have hD : 1000 ≤ DD j ∧ DD j ≤ 806000 := by unfold DD; omega
  obtain ⟨P, hP⟩ : ∃ P : Nat, h 2 = (P : Int) + 1 := ⟨(h 2 - 1).toNat, by omega⟩
  have hPn : (h 2).toNat = P + 1 := by omega
  have ok := oN_ok (i := P + 1) (B := DD j + 64) hJ u0 u1 d1 (by omega) hX (by omega) (by omega)
  have le0 := oN_le hJ u0 u1 ok.1 (i := 0) (Nat.zero_le _)
  obtain ⟨S', v', y1, w', y2, y3⟩ := gc_period (N := N) (by omega) hw hR (by omega)
  have hl' := lwL_exg hl hw hoa y3
  obtain ⟨x0, x1, x2, x3⟩ := rows_exg hl hw hoa y3
  have n4 : gi v o 4 = J (h 0) := hL.1.1.2.2.1
  by_cases hC : cO (mt X) (mp X) (h 2).toNat c g = 0
  · have eW : pW h c g (mt X) (mp X) = 3 := by
      unfold pW
      rw [if_neg (by rw [hPn]; exact ok.1), if_pos hC]
    have eO : perO ((h, c, g, mt X, mp X, M), sv, ps, re, ca, ch) = (-1, ((h, c, g, mt X, mp X, M), sv, ps, 3, 0, ch)) := by
      unfold perO
      rw [if_neg (by rw [eW]; decide), eW]
    rw [eO] at y1 y2
    have R5 : cR S' v' a (h, c, g, mt X, mp X, M) sv ps 3 0 ch (j + 1) := y2
    refine ⟨S', v', ?_, ⟨_, _, _, _, _, _, _, _, _, w', R5, ⟨hl', lwR_exg hL hl hw hoa y3, by rw [x0]; exact r10, by rw [x0]; exact r11, by rw [x0]; exact r12⟩, rX, ⟨hau, hX⟩, ⟨c41, h1, h2⟩, ⟨by omega, by omega, by omega⟩, ⟨hoa, tPs_exg hT hw y3⟩, p0_exg hp0 hw y3, hpo⟩, gws_exg y3⟩
    unfold K_lw_act_74 F_lw_measuresPeriod
    rw [grd_true _ hl.1, grd_true _ hl.1, grd_true _ k0, y1]
    simp only [Option.bind_some, if_true]
    rw [gc_reason1 R5]
    simp only [Option.bind_some, if_true]
    have q0 : F_gc_count a (J 0) S' v' = some (.inr (J (h 0))) := gc_count (w := 0) R5 (by decide)
    rw [bx_q q0, n4, if_pos rfl]
    simp only [Option.bind_some]
    rw [grd_true _ (by decide)]
  · have hW : pW h c g (mt X) (mp X) = 0 := pW_0.mpr ⟨by rw [hPn]; exact ok.1, hC⟩
    have eO : perO ((h, c, g, mt X, mp X, M), sv, ps, re, ca, ch) = (pM h c g (mt X) (mp X) 4, (peS (h, c, g, mt X, mp X, M), sv, keepP (h, c, g, mt X, mp X, M) ps, 0, 0, ch)) := if_pos hW
    rw [eO] at y1 y2
    have R5 : cR S' v' a (hG h (oN (mt X) (mp X) (h 2).toNat g), ckK (oN (mt X) (mp X) (h 2).toNat g) c, sgK (mt X) (mp X) (3 * oN (mt X) (mp X) (h 2).toNat g + 2) g, mt X, mp X, kpM (h 5) M (pM h c g (mt X) (mp X))) sv (keepP (h, c, g, mt X, mp X, M) ps) 0 0 ch (j + 1) := y2
    have hzV := pM_V ⟨v0, v1, v2, v3, v5⟩ ⟨c1, c2, c3⟩ ⟨⟨u, hJ, u0, u1⟩, s6, s7⟩ hW
    have z3 : 1 ≤ cO (mt X) (mp X) (h 2).toNat c g := (hzV.2.2.2.2.2.2.2 rfl).1
    have z3u : cO (mt X) (mp X) (h 2).toNat c g ≤ 2100000 := hzV.2.2.2.1.2
    have z4 : 0 ≤ pM h c g (mt X) (mp X) 4 ∧ pM h c g (mt X) (mp X) 4 ≤ 2000000000 := hzV.2.2.2.2.1
    have L5 := lwR_exg hL hl hw hoa y3
    obtain ⟨w9, e1, e2, e3, e4, e5⟩ := lw_waitsO hN hl' L5 hI le0.1
    have hI3 := mdI_O hI le0.1
    have k1 := keS_nn hI3
    have k2 := (c5_B hI3).2.1
    have k2' := (c5_B hI3).1
    obtain ⟨w10, T', c', g', f1, f2, f3, f4, f5, -, f7⟩ := lw_countsOL (N := N) hl' (12500000 : Nat) N (P + 1) w9 _ 0 _ _ (by omega) (by omega) e2 hI3 e4 (fun k hk => by rw [oN_tail hJ u0 u1 le0.1, ← hk]; exact ok.1) (by omega)
    obtain ⟨eT, ec, eg⟩ := f7 P rfl
    rw [oN_tail hJ u0 u1 le0.1] at eT ec eg
    rw [ckK_K c1 le0.2] at ec
    rw [sgK_K hJ u0 u1 (by omega) (by omega)] at eg
    rw [Int.zero_add, ec] at f4
    rw [eT] at f3
    rw [eT, ec, eg] at f2
    rw [← hPn] at f2 f3 f4
    have f4' : rw w10 o 23 = J (cO (mt X) (mp X) (h 2).toNat c g) := f4
    have R6 := cR_fle (cR_fle R5 hl' e5 (by omega)) hl' f5 (by omega)
    have w10' : rw w10 o 10 = J (h 1) := by rw [f5.2 10 (Or.inl rfl), e5.2 10 (Or.inl rfl), x0]; exact r10
    have w11 : rw w10 o 11 = J (h 2) := by rw [f5.2 11 (Or.inr (Or.inl rfl)), e5.2 11 (Or.inr (Or.inl rfl)), x0]; exact r11
    have w12 : rw w10 o 12 = J (h 3) := by rw [f5.2 12 (Or.inr (Or.inr (Or.inl rfl))), e5.2 12 (Or.inr (Or.inr (Or.inl rfl))), x0]; exact r12
    have w21 : rw w10 o 21 = J (oN (mt X) (mp X) 0 g) := (f5.2 21 (by omega)).trans e3
    have kl := kp_last (M := M) (z := pM h c g (mt X) (mp X)) v5
    have h4 := hJ.1.2.2.2.2.1
    have gk4 := sgK_keep (K := 3 * oN (mt X) (mp X) (h 2).toNat g + 2) hJ u0 u1 (by rw [hPn]; omega) 4 (Or.inl rfl)
    have c0K := ckK42 (T := oN (mt X) (mp X) (h 2).toNat g) c1 c41 (D := DD j + 34000) (by omega) (by rw [hPn]; omega)
    have hval : F_lw_value o (J 1) S' w10 = some (J (pM h c g (mt X) (mp X) 4)) := by
      unfold F_lw_value
      rw [if_neg (by decide), grd_true _ hl'.1, if_neg (by decide)]
      have z23 : gi w10 o 23 = J (cO (mt X) (mp X) (h 2).toNat c g) := f4'
      have z11 : gi w10 o 11 = J (h 2) := w11
      rw [z23, z11]
      exact lw_val35 hl' (f2.1.1.1.trans (by rw [c0K.2])) (f2.1.1.2.2.2.2.2.2.2.trans (by rw [gk4])) w12 c1.1 h4 (by omega) (by omega) v3
    have made : F_lw_isMade N o a (J 1) (J (pM h c g (mt X) (mp X) 4)) S' w10 = some (J 1) := lw_made (N := N) (by omega) R6 hl' (z := pM h c g (mt X) (mp X)) kl.2 kl.1 hzV hval w21 f3 f4' w11 w12
    refine ⟨S', w10, ?_, ?_, gws_exg y3⟩
    · unfold K_lw_act_74 F_lw_measuresPeriod
      rw [grd_true _ hl.1, grd_true _ hl.1, grd_true _ k0, y1]
      simp only [Option.bind_some]
      rw [if_neg (fun z => by have := (J_inj (show -2147483648 ≤ pM h c g (mt X) (mp X) 4 ∧ pM h c g (mt X) (mp X) 4 < 2147483648 by omega) (show -2147483648 ≤ (-1 : Int) ∧ (-1 : Int) < 2147483648 by decide)).mp z; omega), e1]
      simp only [Option.bind_some]
      have z11 : gi w9 o 11 = J ((P + 1 : Nat) : Int) := by
        rw [gi_rw, e5.2 11 (Or.inr (Or.inl rfl)), x0, r11, hP]; rfl
      have ec' : F_lw_counts N o (J 4) (J 2) (gi w9 o 11) S' w9 = some w10 := by rw [z11]; exact f1
      rw [ec']
      simp only [Option.bind_some]
      have z23 : gi w10 o 23 = J (cO (mt X) (mp X) (h 2).toNat c g) := f4'
      rw [z23, if_pos ((J_lt (by decide) (by omega)).mpr (by omega)), made]
      simp only [Option.bind_some]
      rw [if_neg (by decide)]
      simp only [Option.bind_some]
      rw [grd_true _ (by decide)]
    · have sX := sgX_K (K := 3 * oN (mt X) (mp X) (h 2).toNat g + 2) (B := DD j + 34000) hJ u0 u1 (by rw [hPn]; omega) hX (by omega) (by omega) (by rw [hPn]; omega)
      refine ⟨_, _, _, _, _, _, _, _, _, w', R6, ⟨hl', f2, w10', w11, w12⟩, rX, ⟨auZ_K hJ u0 u1 (by rw [hPn]; omega) hau, sX.1⟩, ⟨by rw [c0K.2]; exact c41, h1, h2⟩, ⟨?_, ?_, ?_⟩, ⟨hoa, tPs_fle (tPs_fle (tPs_exg hT hw y3) hl' e5) hl' f5⟩, p0_exg hp0 hw y3, hpo⟩
      · show oN (mt X) (mp X) (h 2).toNat g ≤ DD (j + 1)
        rw [hPn]
        omega
      · have := c0K.1
        omega
      · have := sX.2
        omega
theorem act_run {x : Int32} (hN : 13000000 ≤ N) (hj : j ≤ 23) (H : LJ S v o a p0 n X j) : ∃ S' v', K_lw_act_80 N S v o a x = some (J 1, S', v') ∧ LJ S' v' o a p0 n X (j + 1) ∧ gws S S' := by
  obtain ⟨h, c, g, M, sv, ps, re, ca, ch, hw, hR, ⟨hl, hL, r10, r11, r12⟩, rX, ⟨hau, hX⟩, ⟨c41, h1, h2⟩, ⟨d0, d4, d1⟩, ⟨hoa, hT⟩, hp0, hpo⟩ := H
  have hs := cR_V hR
  have hI := stV_I hs rX
  obtain ⟨⟨v0, v1, v2, v3, v5⟩, ⟨c1, c2, c3⟩, ⟨⟨u, hJ, u0, u1⟩, s6, s7⟩, hu, hT0, hMV⟩ := id hs
  have hDj : DD (j + 1) = DD j + 35000 := by unfold DD; omega
  have hD : 1000 ≤ DD j ∧ DD j ≤ 806000 := by unfold DD; omega
  obtain ⟨y, hy, y0, y9⟩ := lwb_ok (f := J 3) (m := J 9) (n := 511) (by decide) (by decide) x
  have y9' : y ≤ 511 := y9
  obtain ⟨w, e1, e2, e3⟩ := lw_goes (L := h 0 + (1 + y)) hN hl hL hI ⟨by omega, by omega⟩
  have R4 := cR_fle hR hl e3 (by omega)
  have eO : runO ((h, c, g, mt X, mp X, M), sv, ps, re, ca, ch) (1 + y) = .inr (sgK (mt X) (mp X) (3 * (h 0 + (1 + y)) + 2) g 2 - g 2, (goS (h 0 + (1 + y)) (h, c, g, mt X, mp X, M), sv, keepP (h, c, g, mt X, mp X, M) ps, re, ca, ch)) := by
    unfold runO
    rw [if_pos ⟨by omega, by omega⟩, if_neg (show ¬ 2000000 < h 0 + (1 + y) by omega)]
    rfl
  have U := gc_run (n := 1 + y) (N := N) (by omega) hw R4 (by omega) (by omega)
  rw [eO] at U
  obtain ⟨S', v', z1, w', z2, z3⟩ := U
  have R5 : cR S' v' a (fun k => if k = 0 then h 0 + (1 + y) else h k, ckK (h 0 + (1 + y)) c, sgK (mt X) (mp X) (3 * (h 0 + (1 + y)) + 2) g, mt X, mp X, M) sv (keepP (h, c, g, mt X, mp X, M) ps) re ca ch (j + 1) := z2
  obtain ⟨x0, x1, x2, x3⟩ := rows_exg hl hw hoa z3
  have hl' := lwL_exg hl hw hoa z3
  have f2' := lwR_exg e2 hl hw hoa z3
  refine ⟨S', v', ?_, ?_, gws_exg z3⟩
  · unfold K_lw_act_80
    have n4 : gi v o 4 = J (h 0) := hL.1.1.2.2.1
    have n6 : gi v o 6 = J (g 2) := hL.1.1.2.2.2.2.1
    have n6' : gi v' o 6 = J (sgK (mt X) (mp X) (3 * (h 0 + (1 + y)) + 2) g 2) := f2'.1.1.2.2.2.2.1
    rw [grd_true _ hl.1, hy]
    simp only [Option.bind_some]
    rw [n4, n6, show J (h 0) + J 1 + J y = J (h 0 + (1 + y)) by rw [← J_add, ← J_add, Int.add_assoc], e1]
    simp only [Option.bind_some]
    rw [hy]
    simp only [Option.bind_some]
    rw [grd_true _ R4.1.1.1, show J 1 + J y = J (1 + y) by rw [J_add], bx_q z1]
    show (if _ = gi v' o 6 - J (g 2) then _ else _) = _
    rw [n6', if_pos (by rw [J_sub])]
  · have sX := sgX_K (K := 3 * (h 0 + (1 + y)) + 2) (B := DD j + 2000) hJ u0 u1 (by omega) hX (by omega) (by omega) (by omega)
    have c0K := ckK42 (T := h 0 + (1 + y)) c1 c41 (D := DD j + 2000) (by omega) (by omega)
    refine ⟨_, _, _, _, _, _, _, _, _, w', R5, ⟨hl', f2', ?_, ?_, ?_⟩, rX, ⟨auZ_K hJ u0 u1 (by omega) hau, sX.1⟩, ⟨by rw [c0K.2]; exact c41, h1, h2⟩, ⟨?_, ?_, ?_⟩, ⟨hoa, tPs_exg (tPs_fle hT hl e3) hw z3⟩, p0_exg hp0 hw z3, hpo⟩
    · rw [x0, e3.2 10 (Or.inl rfl)]; exact r10
    · rw [x0, e3.2 11 (Or.inr (Or.inl rfl))]; exact r11
    · rw [x0, e3.2 12 (Or.inr (Or.inr (Or.inl rfl)))]; exact r12
    · show h 0 + (1 + y) ≤ DD (j + 1)
      omega
    · have := c0K.1
      omega
    · have := sX.2
      omega
theorem act_pre {x : Int32} (hN : 13000000 ≤ N) (hj : j ≤ 23) (H : LJ S v o a p0 n X j) : ∃ S' v', K_lw_act_131 N S v o a x = some (J 1, S', v') ∧ LJ S' v' o a p0 n X (j + 1) ∧ gws S S' := by
  obtain ⟨h, c, g, M, sv, ps, re, ca, ch, hw, hR, ⟨hl, hL, r10, r11, r12⟩, rX, ⟨hau, hX⟩, ⟨c41, h1, h2⟩, ⟨d0, d4, d1⟩, ⟨hoa, hT⟩, hp0, hpo⟩ := H
  have hDj : DD (j + 1) = DD j + 35000 := by unfold DD; omega
  obtain ⟨y, hy, y0, y9⟩ := lwb_ok (f := J 3) (m := J 3) (n := 7) (by decide) (by decide) x
  obtain ⟨P, hP, hPP⟩ := sh5 ⟨y0, y9⟩
  have hPB := isP_B hPP
  obtain ⟨⟨⟨n0, n1, n4, n5, n6, n7, n8, n9⟩, n13, n14, n15, n18, n19⟩, hS, hD, hPs⟩ := id hL
  have F : fle o 25 v (wr v o (up (up (rw v o) 9 (J P)) 8 (J 0))) := fle_wr fun k hk => by rw [up_ne (by omega), up_ne (by omega)]
  have R4 := cR_fle hR hl F (by omega)
  have U := gc_setPrescale (n := P) (o := .inr (g 4, (psS P (h, c, g, mt X, mp X, M), sv, keepP (h, c, g, mt X, mp X, M) ps, re, ca, ch))) (N := N) (by omega) hw R4 (by omega) (tPs_fle hT hl F) (by omega) ⟨fun _ => rfl, fun hn => absurd hPP hn⟩
  obtain ⟨S', v', z1, w', z2, z3⟩ := U
  have R5 : cR S' v' a (h, c, psG g P, mt X, mp X, M) sv (keepP (h, c, g, mt X, mp X, M) ps) re ca ch (j + 1) := z2
  have L4 : lwR (wr v o (up (up (rw v o) 9 (J P)) 8 (J 0))) o X (h 0) c (psG g P) := by
    refine ⟨?_, ?_, hD, hPs.1, fun k hk => ?_⟩
    · rw [rw_wr]
      exact ⟨⟨n0, n1, n4, n5, n6, n7, rfl, rfl⟩, n13, n14, n15, n18, n19⟩
    · obtain ⟨s, i, q1, q2, q3⟩ := hS
      rw [rw_wr]
      exact ⟨s, i, q1, q2, q3⟩
    · rw [rw_wr_ne (by omega), rw_wr_ne (by omega)]; exact hPs.2 k hk
  obtain ⟨x0, x1, x2, x3⟩ := rows_exg hl hw hoa z3
  have hl' := lwL_exg hl hw hoa z3
  have f2' := lwR_exg L4 hl hw hoa z3
  refine ⟨S', v', ?_, ?_, gws_exg z3⟩
  · unfold K_lw_act_131
    have n9' : gi v o 9 = J (g 4) := n9
    rw [grd_true _ hl.1, hy]
    simp only [Option.bind_some]
    rw [hP]
    simp only [lt_def, si_wr, wr_wr, rw_wr]
    have e9 : gi (wr v o (up (up (rw v o) 9 (J P)) 8 (J 0))) o 9 = J P := by rw [gi_rw, rw_wr, up_ne (by decide), up_same]
    rw [e9, grd_true _ R4.1.1.1, bx_q z1, n9']
    show (if _ = _ then _ else _) = _
    rw [if_pos rfl]
  · refine ⟨_, _, _, _, _, _, _, _, _, w', R5, ⟨hl', f2', ?_, ?_, ?_⟩, rX, ⟨?_, hX⟩, ⟨c41, h1, h2⟩, ⟨by omega, by omega, ?_⟩, ⟨hoa, tPs_exg (tPs_fle hT hl F) hw z3⟩, p0_exg hp0 hw z3, hpo⟩
    · rw [x0, F.2 10 (Or.inl rfl)]; exact r10
    · rw [x0, F.2 11 (Or.inr (Or.inl rfl))]; exact r11
    · rw [x0, F.2 12 (Or.inr (Or.inr (Or.inl rfl)))]; exact r12
    · show g 2 - g 2 = P * (g 3 - g 3) + 0
      rw [Int.sub_self, Int.sub_self, Int.mul_zero]
      rfl
    · show g 1 ≤ DD (j + 1) + 64
      omega
/-- a setting: the law's row k, the class's w -/
theorem act_set {w y : Int} {k i : Nat} {old : Int} (hN : 13000000 ≤ N) (hj : j ≤ 23) (hk : (k = 10 ∧ i = 1 ∧ w = 4 ∧ 1 ≤ y ∧ y ≤ 32) ∨ (k = 11 ∧ i = 2 ∧ w = 5 ∧ 1 ≤ y ∧ y ≤ 32) ∨ (k = 12 ∧ i = 3 ∧ w = 6 ∧ -32 ≤ y ∧ y ≤ 31)) (H : LJ S v o a p0 n X j) :
    ∃ S' v' x, F_gc_set N a (J w) (J y) S (wr v o (up (rw v o) k (J y))) = some (.inr (x, S', v')) ∧ x = rw v o k ∧ LJ S' v' o a p0 n X (j + 1) ∧ gws S S' := by
  obtain ⟨h, c, g, M, sv, ps, re, ca, ch, hw, hR, ⟨hl, hL, r10, r11, r12⟩, rX, ⟨hau, hX⟩, ⟨c41, h1, h2⟩, ⟨d0, d4, d1⟩, ⟨hoa, hT⟩, hp0, hpo⟩ := H
  have hDj : DD (j + 1) = DD j + 35000 := by unfold DD; omega
  have hk3 : k = 10 ∨ k = 11 ∨ k = 12 := by omega
  have hf : ∀ x, x ≠ o → rw (wr v o (up (rw v o) k (J y))) x = rw v x := fun x hx => rw_wr_ne hx
  have R4 := cR_lo hR hf (by omega) (by rw [hl.1]; decide)
  have hT4 : tPs S (wr v o (up (rw v o) k (J y))) a := by
    obtain ⟨t1, t2, t3⟩ := hT
    have ne : kad S 0 ≠ o := fun e => by rw [e, hl.1] at t1; cases t1
    exact ⟨t1, t2, fun i hi => by rw [hf _ ne]; exact t3 i hi⟩
  have U := gc_set (w := w) (x := y) (N := N) (by omega) hw R4 (by omega) (by omega) (by omega)
  have L4 := lwR_set (x := J y) hL hk3
  have eU : setU ((h, c, g, mt X, mp X, M), sv, ps, re, ca, ch) w y = .inr (h i, ((upZ h i y, c, g, mt X, mp X, M), sv, keepP (h, c, g, mt X, mp X, M) ps, re, ca, ch)) := by
    have rn : ∀ lo hi : Int, lo ≤ y ∧ y ≤ hi → rnZ lo hi y = 1 := fun lo hi hh => if_pos hh
    unfold setU
    rcases hk with ⟨-, rfl, rfl, q1, q2⟩ | ⟨-, rfl, rfl, q1, q2⟩ | ⟨-, rfl, rfl, q1, q2⟩
    · rw [if_pos (show mzZ 4 y = 1 from rn 1 9999 ⟨by omega, by omega⟩)]; rfl
    · rw [if_pos (show mzZ 5 y = 1 from rn 1 999 ⟨by omega, by omega⟩)]; rfl
    · rw [if_pos (show mzZ 6 y = 1 from rn (-99) 99 ⟨by omega, by omega⟩)]; rfl
  rw [eU] at U
  obtain ⟨S', v', z1, w', z2, z3⟩ := U
  have R5 : cR S' v' a (upZ h i y, c, g, mt X, mp X, M) sv (keepP (h, c, g, mt X, mp X, M) ps) re ca ch (j + 1) := z2
  obtain ⟨x0, x1, x2, x3⟩ := rows_exg hl hw hoa z3
  have hl' := lwL_exg hl hw hoa z3
  have e0 : upZ h i y 0 = h 0 := by
    show (if 0 = i then y else h 0) = h 0
    rw [if_neg (by omega)]
  have f2' : lwR v' o X (upZ h i y 0) c g := by rw [e0]; exact lwR_exg L4 hl hw hoa z3
  have rr : ∀ i' k', (k' = 10 ∧ i' = 1) ∨ (k' = 11 ∧ i' = 2) ∨ (k' = 12 ∧ i' = 3) → rw v o k' = J (h i') → rw v' o k' = J (upZ h i y i') := by
    intro i' k' hh he
    rw [x0, rw_wr]
    show (if k' = k then J y else rw v o k') = J (if i' = i then y else h i')
    by_cases e : k' = k
    · rw [if_pos e, if_pos (by omega)]
    · rw [if_neg e, if_neg (by omega)]
      exact he
  refine ⟨S', v', J (h i), z1, ?_, ⟨_, _, _, _, _, _, _, _, _, w', R5, ⟨hl', f2', rr 1 10 (by omega) r10, rr 2 11 (by omega) r11, rr 3 12 (by omega) r12⟩, rX, ⟨hau, hX⟩, ⟨c41, ?_, ?_⟩, ⟨by omega, by omega, by omega⟩, ⟨hoa, tPs_exg hT4 hw z3⟩, p0_exg hp0 hw z3, hpo⟩, gws_exg z3⟩
  · rcases hk with ⟨rfl, rfl, -⟩ | ⟨rfl, rfl, -⟩ | ⟨rfl, rfl, -⟩
    · exact r10.symm
    · exact r11.symm
    · exact r12.symm
  · show (if 1 = i then y else h 1) ≤ 32
    split <;> omega
  · show (if 2 = i then y else h 2) ≤ 32
    split <;> omega
theorem lw_act {x : Int32} (hN : 13000000 ≤ N) (hj : j ≤ 23) (H : LJ S v o a p0 n X j) : ∃ S' v', F_lw_act N o a x S v = some (J 1, S', v') ∧ LJ S' v' o a p0 n X (j + 1) ∧ gws S S' := by
  have hl : lwL S o := by obtain ⟨h, c, g, M, sv, ps, re, ca, ch, hw, hR, hJ, -⟩ := H; exact hJ.1
  have k0 : kin S a = some (0, 5) := by obtain ⟨h, c, g, M, sv, ps, re, ca, ch, hw, hR, -⟩ := H; exact hR.1.1.1
  obtain ⟨y, hy, y0, y7⟩ := lwb_ok (f := J 0) (m := J 3) (n := 7) (by decide) (by decide) x
  unfold F_lw_act
  rw [hy]
  simp only [Option.bind_some]
  have ne : ∀ {i : Int}, (0 ≤ i ∧ i ≤ 7) → y ≠ i → ¬ J y = J i := fun hi h e => h ((J_inj (by omega) (by omega)).mp e)
  by_cases q0 : y = 0
  · rw [if_pos (by rw [q0])]
    exact act_gate hN hj H
  rw [if_neg (ne (by decide) q0)]
  by_cases q1 : y = 1
  · rw [if_pos (by rw [q1])]
    exact act_per hN hj H
  rw [if_neg (ne (by decide) q1)]
  by_cases q2 : y = 2
  · rw [if_pos (by rw [q2])]
    exact act_run hN hj H
  rw [if_neg (ne (by decide) q2)]
  by_cases q3 : y = 3
  · rw [if_pos (by rw [q3])]
    exact act_run hN hj H
  rw [if_neg (ne (by decide) q3)]
  by_cases q4 : y = 4
  · rw [if_pos (by rw [q4])]
    exact act_pre hN hj H
  rw [if_neg (ne (by decide) q4)]
  by_cases q5 : y = 5
  · rw [if_pos (by rw [q5])]
    obtain ⟨z, hz, z0, z1⟩ := lwb_ok (f := J 3) (m := J 5) (n := 31) (by decide) (by decide) x
    have z1' : z ≤ 31 := z1
    obtain ⟨S', v', r, e1, e2, e3, e4⟩ := act_set (w := 4) (y := 1 + z) (k := 10) (i := 1) (old := 0) hN hj (Or.inl ⟨rfl, rfl, rfl, by omega, by omega⟩) H
    refine ⟨S', v', ?_, e3, e4⟩
    unfold K_lw_act_173
    rw [grd_true _ hl.1, hz]
    simp only [Option.bind_some, lt_def, si_wr]
    rw [show J 1 + J z = J (1 + z) by rw [J_add], grd_true _ k0]
    have e10 : gi (wr v o (up (rw v o) 10 (J (1 + z)))) o 10 = J (1 + z) := by rw [gi_rw, rw_wr, up_same]
    rw [e10, bx_q e1]
    show (if r = rw v o 10 then _ else _) = _
    rw [if_pos e2]
  rw [if_neg (ne (by decide) q5)]
  by_cases q6 : y = 6
  · rw [if_pos (by rw [q6])]
    obtain ⟨z, hz, z0, z1⟩ := lwb_ok (f := J 3) (m := J 5) (n := 31) (by decide) (by decide) x
    have z1' : z ≤ 31 := z1
    obtain ⟨S', v', r, e1, e2, e3, e4⟩ := act_set (w := 5) (y := 1 + z) (k := 11) (i := 2) (old := 0) hN hj (Or.inr (Or.inl ⟨rfl, rfl, rfl, by omega, by omega⟩)) H
    refine ⟨S', v', ?_, e3, e4⟩
    unfold K_lw_act_209
    rw [grd_true _ hl.1, hz]
    simp only [Option.bind_some, lt_def, si_wr]
    rw [show J 1 + J z = J (1 + z) by rw [J_add], grd_true _ k0]
    have e10 : gi (wr v o (up (rw v o) 11 (J (1 + z)))) o 11 = J (1 + z) := by rw [gi_rw, rw_wr, up_same]
    rw [e10, bx_q e1]
    show (if r = rw v o 11 then _ else _) = _
    rw [if_pos e2]
  rw [if_neg (ne (by decide) q6)]
  obtain ⟨z, hz, z0, z1⟩ := lwb_ok (f := J 3) (m := J 6) (n := 63) (by decide) (by decide) x
  have z1' : z ≤ 63 := z1
  obtain ⟨S', v', r, e1, e2, e3, e4⟩ := act_set (w := 6) (y := z - 32) (k := 12) (i := 3) (old := 0) hN hj (Or.inr (Or.inr ⟨rfl, rfl, rfl, by omega, by omega⟩)) H
  refine ⟨S', v', ?_, e3, e4⟩
  unfold K_lw_act_245
  rw [grd_true _ hl.1, hz]
  simp only [Option.bind_some, lt_def, si_wr]
  rw [show J z - J 32 = J (z - 32) by rw [J_sub], grd_true _ k0]
  have e10 : gi (wr v o (up (rw v o) 12 (J (z - 32)))) o 12 = J (z - 32) := by rw [gi_rw, rw_wr, up_same]
  rw [e10, bx_q e1]
  show (if r = rw v o 12 then _ else _) = _
  rw [if_pos e2]
end LAWACTS
