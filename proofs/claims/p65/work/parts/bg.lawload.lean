/-! The law's text is loaded. -/
section LAWLOAD
variable {S S' : shp} {v v' : vl} {a N n m k q : Nat} {L rest : List Int} {z t p : Nat → Int} {st d ag P G Q re ca ch f5 f6 f7 : Int} {now : sta} {sv : Option sta} {ps : List sta}
/-- the segments from the k-th on, r of them -/
def sgTl (t p : Nat → Int) : Nat → Nat → List Int
  | _, 0 => []
  | k, r + 1 => sg1 (t k) (p k) ++ sgTl t p (k + 1) r
theorem sgU_R : ∀ (r k : Nat), sgU t p k ++ sgTl t p k r = sgU t p (k + r)
  | 0, k => List.append_nil _
  | r + 1, k => by
    show sgU t p k ++ (sg1 (t k) (p k) ++ sgTl t p (k + 1) r) = _
    rw [← List.append_assoc]
    show sgU t p (k + 1) ++ sgTl t p (k + 1) r = _
    rw [sgU_R r (k + 1), show k + 1 + r = k + (r + 1) by omega]
theorem sg1_eq {A : Int} : sg1 A P ++ rest = [] ++ (cwL 16 ++ ([32] ++ (numL A ++ ([32] ++ (numL P ++ ([59] ++ rest)))))) := by
  unfold sg1
  rw [show sS = cwL 16 ++ [32] from rfl]
  simp only [List.append_assoc, List.nil_append]
theorem tx_eq {R : List Int} : hdT st d ag P G Q ++ R = [] ++ (cwL 10 ++ ([32] ++ (numL st ++ ([32] ++ (cwL 11 ++ ([32] ++ (numL d ++ ([32] ++ (cwL 12 ++ ([32] ++ (numL ag ++ ([59] ++ ([] ++ (cwL 13 ++ ([32] ++ (numL P ++ ([59] ++ ([] ++ (cwL 14 ++ ([32] ++ (numL G ++ ([59] ++ ([] ++ (cwL 15 ++ ([32] ++ (numL Q ++ ([59] ++ R))))))))))))))))))))))))))) := by
  unfold hdT
  rw [show sC = cwL 10 ++ [32] from rfl, show sD = [32] ++ (cwL 11 ++ [32]) from rfl, show sA = [32] ++ (cwL 12 ++ [32]) from rfl, show sP = [59] ++ (cwL 13 ++ [32]) from rfl, show sG = [59] ++ (cwL 14 ++ [32]) from rfl, show sQ = [59] ++ (cwL 15 ++ [32]) from rfl]
  simp only [List.append_assoc, List.nil_append]
/-- the draft, k segments read -/
def hK (G Q : Int) : Nat → Int := upZ (upZ h00 1 G) 2 Q
def gK (P : Int) (k : Nat) : Nat → Int := fun j => if j = 8 then (k : Int) else psG g00 P j
def TK (t : Nat → Int) (k : Nat) : Nat → Int := fun i => if i < k then t i else 0
def sK (st d ag P G Q : Int) (t p : Nat → Int) (k : Nat) : sta := (hK G Q, CZ st d ag, gK P k, TK t k, TK p k, fun _ _ => 0)
theorem gK_0 : gK P 0 = psG g00 P := by
  funext j
  unfold gK
  by_cases h : j = 8
  · rw [if_pos h, h]; rfl
  · rw [if_neg h]
theorem TK_0 : TK t 0 = fun _ => 0 := by
  funext j
  unfold TK
  rw [if_neg (by omega)]
theorem gK_8 : gK P k 8 = (k : Int) := if_pos rfl
theorem gK_s : apG (gK P k) = gK P (k + 1) := by
  funext j
  unfold apG
  rw [gK_8]
  unfold gK
  by_cases h : j = 8
  · rw [if_pos h, if_pos h]; omega
  · rw [if_neg h, if_neg h, if_neg h]
theorem TK_s : apT (gK P k) (t k) (TK t k) = TK t (k + 1) := by
  funext j
  unfold apT
  rw [gK_8]
  unfold TK
  by_cases h : j = k
  · rw [if_pos (by omega), h, if_pos (by omega)]
  · rw [if_neg (by omega)]
    by_cases h2 : j < k
    · rw [if_pos h2, if_pos (by omega)]
    · rw [if_neg h2, if_neg (by omega)]
theorem sK_s : asS (sK st d ag P G Q t p k) (t k) (p k) = sK st d ag P G Q t p (k + 1) := by
  show (hK G Q, CZ st d ag, apG (gK P k), apT (gK P k) (t k) (TK t k), apT (gK P k) (p k) (TK p k), fun _ _ => (0 : Int)) = _
  rw [gK_s, TK_s, TK_s]
  rfl
theorem ld_segs (hN : 1000 ≤ N) (hL : gcL S a) (hm : m ≤ 4) (hf : flB f5 f6 f7) (hc : sgC t p m m) : ∀ (r k F q : Nat) (v : vl) (z : Nat → Int), k + r = m → r < F → q + r < L.length → CT S v a L z → NX L z (sgTl t p k r) f5 f6 f7 → stD S v (a + 3) (sK st d ag P G Q t p k) → dV (sK st d ag P G Q t p k) →
    ∃ v' z', K_tx_read_65 N F S v (a + 1) (J 1) (J (q : Int)) = some (J 1, v') ∧ CT S v' a L z' ∧ stD S v' (a + 3) (sK st d ag P G Q t p m) ∧ dV (sK st d ag P G Q t p m) ∧ fri (a + 1) 8 v v'
  | _, _, 0, _, _, _, _, h, _, _, _, _, _ => absurd h (Nat.not_lt_zero _)
  | 0, k, F + 1, q, v, z, hk, _, _, hC, hX, hD, hs => by
    have : k = m := by omega
    subst this
    obtain ⟨-, z8⟩ := nx_e hX hf
    exact ⟨v, z, rd_end hL hC z8, hC, hD, hs, fri_refl _ _ _⟩
  | r + 1, k, F + 1, q, v, z, hk, hF, hq, hC, hX, hD, hs => by
    have hX' : NX L z ([] ++ (cwL 16 ++ ([32] ++ (numL (t k) ++ ([32] ++ (numL (p k) ++ ([59] ++ sgTl t p (k + 1) r))))))) f5 f6 f7 := by
      rw [← sg1_eq]
      exact hX
    obtain ⟨I1, t1, A1, g5, g6, g7⟩ := nx_w hX' hf sp_0 cw_ne cw_kd (hd_sp (by decide))
    obtain ⟨c1, c2, -⟩ := id hc
    obtain ⟨b1, b2, b3⟩ := c1 k (by omega)
    have hls : lsZ (gK P k) (TK t k) < t k := by
      unfold lsZ
      rw [gK_8]
      by_cases h0 : 0 < (k : Int)
      · rw [if_pos h0]
        unfold TK
        rw [if_pos (by omega)]
        have := c2 (k - 1) (by omega)
        rw [show k - 1 + 1 = k by omega] at this
        rw [show ((k : Int) - 1).toNat = k - 1 by omega]
        exact this
      · rw [if_neg h0]; omega
    obtain ⟨v1, z1, e1, C1, X1, D1, s1, fr1⟩ := ld_sig (N := N) hN hL hC I1 A1 (by rw [gK_8]; omega) ⟨hls, b1, by omega⟩ (by omega) hD hs
    rw [g5, g6, g7] at X1
    obtain ⟨v2, z2, e2, C2, X2, D2, fr2⟩ := ld_semi (N := N) hN hL C1 X1 hf D1 fr1
    have e3 := stmt_16 (N := N) hN hL hC I1 t1 e1 e2
    have sk : asS (hK G Q, CZ st d ag, gK P k, TK t k, TK p k, fun _ _ => (0 : Int)) (t k) (p k) = sK st d ag P G Q t p (k + 1) := sK_s
    rw [sk] at D2 s1
    obtain ⟨v', z', f1, f2, f3, f4, fr3⟩ := ld_segs hN hL hm hf hc r (k + 1) F (q + 1) v2 z2 (by omega) (by omega) (by omega) C2 X2 D2 s1
    exact ⟨v', z', (rd_step (N := N) (F := F) (q := q) hL hC t1.1 (by omega) e3).trans f1, f2, f3, f4, fri_tr fr2 fr3⟩
theorem hdT_lo : 40 ≤ (hdT st d ag P G Q).length := by
  unfold hdT sC sD sA sP sG sQ
  simp only [List.length_append, List.length_cons, List.length_nil]
  omega
/-- all statements -/
theorem ld_all (hN : 1000 ≤ N) (hL : gcL S a) (hB : hdB st d ag P G Q) (hm : m ≤ 4) (hc : sgC t p m m) (eL : L = hdT st d ag P G Q ++ sgU t p m) (hC : CT S v a L z) (hX : NX L z L 0 0 0) (hD : stD S v (a + 3) (s00 10 0 0)) (hT : tPs S v a) :
    ∃ v' z', ((F_tx_isWord N (a + 1) (kad S 10) S v).bind fun x9 => (if x9 = (J 0) then (F_tx_fail (a + 1) (J 1) S v).bind fun (x10, w11) => K_tx_read_65 N N S w11 (a + 1) x10 (J 0) else (F_tx_readClock N (a + 1) S v).bind fun (x18, w19) => K_tx_read_65 N N S w19 (a + 1) x18 (J 0))) = some (J 1, v') ∧ CT S v' a L z' ∧ stD S v' (a + 3) (sK st d ag P G Q t p m) ∧ dV (sK st d ag P G Q t p m) ∧ fri (a + 1) 8 v v' := by
  have n1 : ¬ J 1 = J 0 := by decide
  obtain ⟨b1, b2, b3, b4, b5, b6⟩ := hB
  have hl : 40 ≤ L.length := by
    rw [eL, List.length_append]
    have := hdT_lo (st := st) (d := d) (ag := ag) (P := P) (G := G) (Q := Q)
    omega
  have f000 : flB 0 0 0 := ⟨Or.inl rfl, Or.inl rfl, Or.inl rfl⟩
  have f100 : flB 1 0 0 := ⟨Or.inr rfl, Or.inl rfl, Or.inl rfl⟩
  have f110 : flB 1 1 0 := ⟨Or.inr rfl, Or.inr rfl, Or.inl rfl⟩
  have f111 : flB 1 1 1 := ⟨Or.inr rfl, Or.inr rfl, Or.inr rfl⟩
  have hX' : NX L z (hdT st d ag P G Q ++ sgU t p m) 0 0 0 := by rw [← eL]; exact hX
  rw [tx_eq] at hX'
  obtain ⟨I0, t0, A0, g5, g6, g7⟩ := nx_w hX' f000 sp_0 cw_ne cw_kd (hd_sp (by decide))
  have w10 := is_word (N := N) (j := 10) hN hL hC I0 (by decide) t0
  obtain ⟨v1, z1, e1, C1, X1, D1, fr1⟩ := ld_clock (N := N) hN hL hC I0 A0 hD (by omega) (by omega) (by omega)
  rw [g5, g6, g7] at X1
  have s1 : dV (s00 st d ag) := s00_V (by omega) (by omega) (by omega)
  -- the prescaler
  obtain ⟨I1, t1, A1, h5, h6, h7⟩ := nx_w X1 f000 sp_0 cw_ne cw_kd (hd_sp (by decide))
  obtain ⟨v2, z2, e2, C2, X2, D2, s2, fr2⟩ := ld_pres (N := N) hN hL C1 I1 h5 A1 b4 D1 s1 (tPs_fri hT fr1 (by omega))
  rw [h6, h7] at X2
  obtain ⟨v3, z3, e3, C3, X3, D3, fr3⟩ := ld_semi (N := N) hN hL C2 X2 f100 D2 fr2
  have r1 := stmt_13 (N := N) hN hL C1 I1 t1 e2 e3
  have pk : psS P (s00 st d ag) = (h00, CZ st d ag, gK P 0, TK t 0, TK p 0, fun _ _ => (0 : Int)) := by
    rw [gK_0, TK_0, TK_0]
    rfl
  rw [pk] at D3 s2
  -- the gate
  obtain ⟨I3, t3, A3, i5, i6, i7⟩ := nx_w X3 f100 sp_0 cw_ne cw_kd (hd_sp (by decide))
  obtain ⟨v4, z4, e4, C4, X4, D4, s4, fr4⟩ := ld_gate (N := N) hN hL C3 I3 i6 A3 (by omega) D3 s2
  rw [i5, i7] at X4
  obtain ⟨v5, z5, e5, C5, X5, D5, fr5⟩ := ld_semi (N := N) hN hL C4 X4 f110 D4 fr4
  have r2 := stmt_14 (N := N) hN hL C3 I3 t3 e4 e5
  -- the periods
  obtain ⟨I5, t5, A5, j5, j6, j7⟩ := nx_w X5 f110 sp_0 cw_ne cw_kd (hd_sp (by decide))
  obtain ⟨v6, z6, e6, C6, X6, D6, s6, fr6⟩ := ld_per (N := N) hN hL C5 I5 j7 A5 (by omega) D5 s4
  rw [j5, j6] at X6
  obtain ⟨v7, z7, e7, C7, X7, D7, fr7⟩ := ld_semi (N := N) hN hL C6 X6 f111 D6 fr6
  have r3 := stmt_15 (N := N) hN hL C5 I5 t5 e6 e7
  -- the segments
  have X7' : NX L z7 (sgTl t p 0 m) 1 1 1 := by
    have := sgU_R (t := t) (p := p) m 0
    rw [Nat.zero_add] at this
    have e : sgTl t p 0 m = sgU t p m := by
      rw [← this]
      rfl
    rw [e]
    exact X7
  obtain ⟨F, eF⟩ : ∃ F, N = F + 1 + 1 + 1 := ⟨N - 3, by omega⟩
  obtain ⟨v8, z8, e8, C8, D8, s8, fr8⟩ := ld_segs (N := N) (st := st) (d := d) (ag := ag) (P := P) (G := G) (Q := Q) hN hL hm f111 hc m 0 F 3 v7 z7 (by omega) (by omega) (by omega) C7 X7' D7 s6
  refine ⟨v8, z8, ?_, C8, D8, s8, fri_tr fr1 (fri_tr fr3 (fri_tr fr5 (fri_tr fr7 fr8)))⟩
  rw [w10, Option.bind_some, if_neg n1, e1, Option.bind_some]
  show K_tx_read_65 N N S v1 (a + 1) (J 1) (J ((0 : Nat) : Int)) = _
  have go : K_tx_read_65 N (F + 1 + 1 + 1) S v1 (a + 1) (J 1) (J ((0 : Nat) : Int)) = some (J 1, v8) := by
    have g0 := rd_step (N := N) (F := F + 1 + 1) (q := 0) hL C1 t1.1 (by omega) r1
    have g1 := rd_step (N := N) (F := F + 1) (q := 1) hL C3 t3.1 (by omega) r2
    have g2 := rd_step (N := N) (F := F) (q := 2) hL C5 t5.1 (by omega) r3
    exact g0.trans (g1.trans (g2.trans e8))
  rw [← eF] at go
  exact go
/-- the call -/
theorem ld_ok (hN : 7000000 ≤ N) (hw : wfS S) (hR : cR S v a now sv ps re ca ch q) (hT : tPs S v a) (hW : wdS S v a lnW WW) (hC : CB v a L.length (asL L)) (r1 : rw v (a + 1) 1 = J (L.length : Int)) (hB : hdB st d ag P G Q) (hm : m ≤ 4) (hc : sgC t p m m) (eL : L = hdT st d ag P G Q ++ sgU t p m) :
    ∃ S' v', F_gc_loadCounter N a S v = some (J (m : Int), S', v') ∧ wfS S' ∧ exN a 0 0 S v S' v' ∧ cR S' v' a (sK st d ag P G Q t p m) none [] re ca ch q := by
  have n1 : ¬ J 1 = J 0 := by decide
  have n5 := hC.1
  have hL := hR.1
  have k0 := hL.1.1
  have g4 := hL.2.1.2.2.2
  have l3 := gcL_st hL (Or.inl rfl)
  obtain ⟨v5, c1, c2, c3⟩ := st_clear (v := v) l3
  obtain ⟨R7, e7⟩ : ∃ R7, R7 = up (up (up (up (up (up (rw v5 (a + 1)) 2 (J 0)) 3 (J (-1))) 5 (J 0)) 6 (J 0)) 7 (J 0)) 10 (J 0) := ⟨_, rfl⟩
  obtain ⟨z0, ez⟩ : ∃ z0, z0 = zi R7 := ⟨_, rfl⟩
  have z02 : z0 2 = 0 := by rw [ez, e7]; show (J 0).toInt = 0; decide
  have z05 : z0 5 = 0 := by rw [ez, e7]; show (J 0).toInt = 0; decide
  have z06 : z0 6 = 0 := by rw [ez, e7]; show (J 0).toInt = 0; decide
  have z07 : z0 7 = 0 := by rw [ez, e7]; show (J 0).toInt = 0; decide
  have z010 : z0 10 = 0 := by rw [ez, e7]; show (J 0).toInt = 0; decide
  have hC0 : CT S (wr v5 (a + 1) R7) a L z0 := by
    refine ⟨⟨hC.1, hC.2.1, fun i hi => by rw [rw_wr_ne (by omega), c3.2 _ (by omega)]; exact hC.2.2 i hi⟩, wdS_eq hW (fun b hb => by rw [rw_wr_ne (by omega), c3.2 _ (by omega)]), ?_⟩
    rw [rw_wr]
    refine ⟨?_, fun k _ _ => by rw [ez]; exact (J_of _).symm⟩
    rw [e7, up_ne (by decide), up_ne (by decide), up_ne (by decide), up_ne (by decide), up_ne (by decide), up_ne (by decide), c3.2 _ (by omega)]
    exact r1
  obtain ⟨R8, d1, C8⟩ := tx_advS (N := N) (by omega) hL hC0 (by rw [z010]; omega)
  rw [wr_wr] at d1 C8
  have X8 : NX L (adZ (asL L) L.length z0) L 0 0 0 := ⟨z0, fun _ _ => rfl, z02, ⟨[], rfl, z010⟩, z05, z06, z07⟩
  obtain ⟨v', z', e1, e2, i3, i4, e3⟩ := ld_all (N := N) (v := wr v5 (a + 1) R8) (by omega) hL hB hm hc eL C8 X8 (stD_lo c2 (by omega)) (tPs_wr (tPs_fri hT c3 (by omega)) (by omega))
  have cr : F_tx_read N (a + 1) S v = some (J 1, v') := by
    unfold F_tx_read
    rw [grd_true _ hL.2.1.1, g4]
    simp only [Option.bind_some]
    rw [grd_true _ l3.1, c1]
    simp only [Option.bind_some, lt_def, si_wr, rw_wr, wr_wr]
    rw [← e7, d1]
    simp only [Option.bind_some]
    exact e1
  obtain ⟨w7, ew7⟩ : ∃ w7, w7 = wr v' (a + 1) (up (rw v' (a + 1)) 1 (J 0)) := ⟨_, rfl⟩
  have F7 : fri (a + 1) 8 v w7 := by
    rw [ew7]
    exact fri_tr (fri_tr (fri_tr (fri_mono c3 (by omega) (by omega)) (fri_wr (by omega))) e3) (fri_wr (by omega))
  have R7' := cR_in hR F7
  have X7N : exN a 0 0 S v S w7 := exN_fri F7 (by omega)
  obtain ⟨s', es⟩ : ∃ s', s' = sK st d ag P G Q t p m := ⟨_, rfl⟩
  have e8 : s'.2.2.1 8 = (m : Int) := by rw [es]; exact gK_8 (P := P)
  rw [← es] at i3 i4 ⊢
  obtain ⟨h, c, g, t', p', M⟩ := s'
  have iV : stV h c g t' p' M := i4.1
  have h50 : h 5 = 0 := i4.2.2.1
  have h8 := stV_8 iV
  have D7 : stM S w7 (a + 3) h c g t' p' := by rw [ew7]; exact stD_lo i3 (by omega)
  obtain ⟨S2, v2, f1, f2, f3, f4⟩ := st_copyFrom (M := M) (N := N) (by omega) hw (gcL_st hL (Or.inr (Or.inl rfl))) D7 (fun i hi => by omega) (Or.inr (by omega)) h8.2.2 iV.1.2.2.2.2
  obtain ⟨w2, R2⟩ := cR_put (now' := (h, c, g, t', p', M)) R7' hw f4 ⟨f2, f3⟩ iV
  obtain ⟨vF, eF⟩ : ∃ vF, vF = wr v2 a (up (up (rw v2 a) 12 (J 0)) 9 (J 0)) := ⟨_, rfl⟩
  have k02 := R2.1.1.1
  have X2N : exN a 0 0 S v S2 vF := by
    rw [eF]
    exact exN_tr (exN_tr X7N (exN_exi f4 (by omega))) (exN_fri (fri_wr (b := a) (n := 1) (by omega)) (by omega))
  have RF : cR S2 vF a (h, c, g, t', p', M) none [] re ca ch q := by
    obtain ⟨hL2, ⟨y1, y2⟩, -, ⟨n', p1, p2, p3, p4, p5, p6⟩, r2, r3, r4⟩ := R2
    rw [eF]
    refine ⟨hL2, ⟨stA_wra y1 k02 (by omega), y2⟩, Or.inl ⟨rfl, by rw [rw_wr, up_same]⟩, ⟨n', by rw [rw_wr, up_ne (by decide), up_ne (by decide)]; exact p1, Nat.zero_le _, p3, by rw [rw_wr, up_ne (by decide), up_same]; rfl, Nat.zero_le _, fun i s his => ?_⟩, by rw [rw_wr, up_ne (by decide), up_ne (by decide)]; exact r2, by rw [rw_wr, up_ne (by decide), up_ne (by decide)]; exact r3, by rw [rw_wr, up_ne (by decide), up_ne (by decide)]; exact r4⟩
    have his' : (none : Option sta) = some s := his
    cases his'
  obtain ⟨q0, q5, qn, -, -, q7, qg, -, -, qq⟩ := cR_now R2
  refine ⟨S2, vF, ?_, w2, X2N, RF⟩
  have j8 : gi vF (a + 11 + 2) 8 = J (g 8) := by rw [gi_rw, eF, rw_wr_ne (by omega)]; exact qq 8 (by decide)
  have e8' : g 8 = (m : Int) := e8
  unfold F_gc_loadCounter
  rw [grd_true _ k0, hL.1.2.1]
  simp only [Option.bind_some]
  rw [grd_true _ hL.2.1.1, cr]
  simp only [Option.bind_some, lt_def, si_wr]
  rw [if_neg n1, hL.1.2.2.2.1]
  simp only [Option.bind_some]
  rw [g4]
  simp only [Option.bind_some]
  rw [grd_true _ (gcL_st hL (Or.inr (Or.inl rfl))).1, ← ew7, f1]
  simp only [Option.bind_some, rw_wr, wr_wr]
  rw [← eF, q5]
  simp only [Option.bind_some]
  rw [grd_true _ qn, q7]
  simp only [Option.bind_some]
  rw [grd_true _ qg, j8, e8']
end LAWLOAD
