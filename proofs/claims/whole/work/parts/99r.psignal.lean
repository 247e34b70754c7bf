/-! What is printed: the signal, both sides. -/
section PSIGNAL
variable {S S' : shp} {v w v' u : vl} {a b m N n q r len r' len' : Nat} {h c g t p : Nat → Int} {M : Nat → Nat → Int} {s now : sta} {sv : Option sta} {ps : List sta} {re ca ch : Int} {X : Nat × (Nat → Int)}
def sigS (t p : Nat → Int) (n9 : Int) (k : Nat) (X : Nat × (Nat → Int)) : Nat × (Nat → Int) := if (k : Int) < n9 then cP 42 (nP (p k) (cP 47 (nP (t k) X))) else nP (p k) (cP 47 (nP (t k) X))
def tSig (t p : Nat → Int) (n9 : Int) : Nat → Nat × (Nat → Int)
  | 0 => (0, fun _ => 0)
  | k + 1 => sigS t p n9 k (if 0 < k then cP 32 (tSig t p n9 k) else tSig t p n9 k)
theorem tSig_s {n9 : Int} {k : Nat} : tSig t p n9 (k + 1) = sigS t p n9 k (if 0 < k then cP 32 (tSig t p n9 k) else tSig t p n9 k) := rfl
def fSig (t p g : Nat → Int) : Nat × (Nat → Int) := if g 8 = 0 then cP 45 (tSig t p (g 9) 0) else tSig t p (g 9) (g 8).toNat
theorem tp_B (hV : stV h c g t p M) {k : Nat} (hk : (k : Int) < g 8) : (0 ≤ t k ∧ t k < 2000000) ∧ (0 ≤ p k ∧ p k ≤ 9999) := by
  obtain ⟨-, -, ⟨⟨u, hJ, q0, q1⟩, -⟩, -⟩ := hV
  obtain ⟨c1, c2, -⟩ := hJ.2.2.1 k hk
  exact ⟨c1, c2⟩
theorem tp_L (hV : stV h c g t p M) {k : Nat} (hk : (k : Int) < g 8) : sgL' (t k) ≤ 7 ∧ sgL' (p k) ≤ 4 := by
  obtain ⟨b1, b2⟩ := tp_B hV hk
  have e7 : pt 7 = 10000000 := rfl
  have e4 : pt 4 = 10000 := rfl
  exact ⟨sgL_e (by omega) (by omega) (by decide), sgL_e (by omega) (by omega) (by decide)⟩
theorem tSig_B (hV : stV h c g t p M) {n9 : Int} : ∀ k : Nat, (k : Int) ≤ g 8 → (tSig t p n9 k).1 ≤ 14 * k ∧ aT (tSig t p n9 k)
  | 0, _ => ⟨Nat.le_refl _, fun i hi => absurd hi (Nat.not_lt_zero _)⟩
  | k + 1, hk => by
    obtain ⟨h1, h2⟩ := tSig_B hV (n9 := n9) k (by omega)
    obtain ⟨l1, l2⟩ := tp_L hV (k := k) (by omega)
    rw [tSig_s]
    have hX : (if 0 < k then cP 32 (tSig t p n9 k) else tSig t p n9 k).1 ≤ 14 * k + 1 ∧ aT (if 0 < k then cP 32 (tSig t p n9 k) else tSig t p n9 k) := by
      split
      · refine ⟨?_, aT_c h2 (by decide)⟩
        show (tSig t p n9 k).1 + 1 ≤ _
        omega
      · exact ⟨by omega, h2⟩
    obtain ⟨Y, hY⟩ : ∃ Y, Y = (if 0 < k then cP 32 (tSig t p n9 k) else tSig t p n9 k) := ⟨_, rfl⟩
    rw [← hY] at hX ⊢
    have hA : aT (nP (p k) (cP 47 (nP (t k) Y))) := aT_n (aT_c (aT_n hX.2) (by decide))
    have hL : (nP (p k) (cP 47 (nP (t k) Y))).1 ≤ 14 * k + 13 := by
      show Y.1 + sgL' (t k) + 1 + sgL' (p k) ≤ _
      omega
    unfold sigS
    split
    · refine ⟨?_, aT_c hA (by decide)⟩
      show (nP (p k) (cP 47 (nP (t k) Y))).1 + 1 ≤ _
      omega
    · exact ⟨by omega, hA⟩
theorem fSig_A (hV : stV h c g t p M) : aT (fSig t p g) := by
  have h8 := stV_8 hV
  unfold fSig
  split
  · exact aT_c (fun i hi => absurd hi (Nat.not_lt_zero _)) (by decide)
  · exact (tSig_B hV _ (by omega)).2
theorem sb_n {x : Int} (hN : 100 ≤ N) (hw : wfS S) (hT : dtT S v a) (hO : OC S v b X.1 X.2 r len) (hx : -2147483648 < x ∧ x < 2147483648) (hl : X.1 + 11 ≤ 142) (hab : a ≤ b) (har : a ≤ r) :
    ∃ S' v' r' len', F_sb_append2 N b (J x) S v = some (some b, S', v') ∧ OC S' v' b (nP x X).1 (nP x X).2 r' len' ∧ exP b r len S v S' v' r' len' := sb_num hN hw hT hO hx hl hab har
/-- all that a print goes on with -/
def gI (a m q : Nat) (h c g t p : Nat → Int) (M : Nat → Nat → Int) (sv : Option sta) (ps : List sta) (re ca ch : Int) (S : shp) (v : vl) (r len : Nat) : Prop := wfS S ∧ mdL S m ∧ cR S v a (h, c, g, t, p, M) sv ps re ca ch q ∧ rOut S a m r len ∧ dtT S v a
theorem gI_exP {l : Nat} {O : Nat → Int} (hG : gI a m q h c g t p M sv ps re ca ch S v r len) (ham : a + 84 ≤ m) (hx : exP (a + 9) r len S v S' v' r' len') (hO : OC S' v' (a + 9) l O r' len') : gI a m q h c g t p M sv ps re ca ch S' v' r' len' := by
  obtain ⟨hw, hm, hR, ho, hT⟩ := hG
  exact ⟨hx.2.2.2.2.2.2.2.2.2.2 hw, mdL_exP hm hw ham hx, cR_exP hR hw ham ho hx, rOut_exP hw hm ho hx hO, dtT_exP hT hw ham ho hx⟩
theorem gc_sig38 {k F : Nat} (hN : 100 ≤ N) (ham : a + 84 ≤ m) (hk : (k : Int) < g 8) (hG : gI a m q h c g t p M sv ps re ca ch S v r len) (hX : X.1 ≤ 14 * k + 1) (hO : OC S v (a + 9) X.1 X.2 r len) :
    ∃ S' v' r' len', K_gc_printSignal_38 N (K_gc_printSignal_10 N F) S v a (J (k : Int)) = K_gc_printSignal_10 N F S' v' a (J ((k + 1 : Nat) : Int)) ∧ OC S' v' (a + 9) (sigS t p (g 9) k X).1 (sigS t p (g 9) k X).2 r' len' ∧ exP (a + 9) r len S v S' v' r' len' := by
  have hV := cR_V hG.2.2.1
  have h8 := stV_8 hV
  obtain ⟨b1, b2⟩ := tp_B hV hk
  obtain ⟨l1, l2⟩ := tp_L hV hk
  have tk : (J (k : Int)).toInt = (k : Int) := J_toInt (by omega) (by omega)
  have hr0 : a ≤ r := by have := hG.2.2.2.1.2; omega
  -- the first number
  have hL := hG.2.2.1.1
  obtain ⟨k0, g5, n0, r6, n1, r7, n2, hh, hc, hg⟩ := cR_now hG.2.2.1
  obtain ⟨⟨w0, w1, w2, w10, w11⟩, wg, wt⟩ := cR_W hG.2.2.1
  obtain ⟨S1, v1, r1, len1, c1, c2, c3⟩ := sb_n (N := N) (x := t k) hN hG.1 hG.2.2.2.2 hO (by omega) (by omega) (by omega) hr0
  have G1 := gI_exP hG ham c3 c2
  obtain ⟨S2, v2, r2, len2, d1, d2, d3⟩ := sb_c (c := 47) G1.1 c2 (by decide) (by show X.1 + sgL' (t k) + 1 ≤ 142; omega)
  have G2 := gI_exP G1 ham d3 d2
  have hL2 := G2.2.2.1.1
  obtain ⟨k0', g5', n0', r6', n1', r7', n2', hh', hc', hg'⟩ := cR_now G2.2.2.1
  obtain ⟨⟨w0', w1', w2', w10', w11'⟩, wg', wt'⟩ := cR_W G2.2.2.1
  have hr2 : a ≤ r2 := by have := G2.2.2.2.1.2; omega
  obtain ⟨S3, v3, r3, len3, e1, e2, e3⟩ := sb_n (N := N) (x := p k) hN G2.1 G2.2.2.2.2 d2 (by omega) (by show X.1 + sgL' (t k) + 1 + 11 ≤ 142; omega) (by omega) hr2
  have G3 := gI_exP G2 ham e3 e2
  have hL3 := G3.2.2.1.1
  obtain ⟨k03, g53, n03, r63, n13, r73, n23, hh3, hc3, hg3⟩ := cR_now G3.2.2.1
  have X3 := exP_tr (exP_tr c3 d3) e3
  have head : K_gc_printSignal_38 N (K_gc_printSignal_10 N F) S v a (J (k : Int)) = if J (k : Int) < J (g 9) then (F_sb_append (a + 9) (J 42) S3 v3).bind fun (q73, S74, w75) => oc2 q73 none fun r77 => K_gc_printSignal_10 N F S74 w75 a (J (k : Int) + (J 1)) else K_gc_printSignal_10 N F S3 v3 a (J (k : Int) + (J 1)) := by
    unfold K_gc_printSignal_38
    rw [grd_true _ k0, hL.1.2.2.1]
    simp only [Option.bind_some]
    rw [g5]
    simp only [Option.bind_some]
    rw [grd_true _ n0, r7]
    simp only [Option.bind_some]
    rw [grd_true _ n2, w10]
    simp only [Option.bind_some]
    rw [grd_true _ w1, grd_true _ (vin_of w1 tk (by omega)), grd_true _ hL.2.2.1, clampT tk, gi_rw, (wt k hk).1, c1]
    simp only [Option.bind_some, oc2]
    rw [grd_true _ G1.2.2.1.1.2.2.1, d1]
    simp only [Option.bind_some, oc2]
    rw [g5']
    simp only [Option.bind_some]
    rw [grd_true _ n0', r7']
    simp only [Option.bind_some]
    rw [grd_true _ n2', w11']
    simp only [Option.bind_some]
    rw [grd_true _ w2', grd_true _ (vin_of w2' tk (by omega)), grd_true _ hL2.2.2.1, gi_rw, (wt' k hk).2, e1]
    simp only [Option.bind_some, oc2]
    rw [g53]
    simp only [Option.bind_some]
    rw [grd_true _ n03, r73]
    simp only [Option.bind_some]
    rw [grd_true _ n23, gi_rw, hg3 9 (by decide), hL3.1.2.2.1]
    simp only [Option.bind_some]
    rw [grd_true _ hL3.2.2.1]
  unfold sigS
  by_cases z : (k : Int) < g 9
  · obtain ⟨S4, v4, r4, len4, f1, f2, f3⟩ := sb_c (c := 42) G3.1 e2 (by decide) (by show X.1 + sgL' (t k) + 1 + sgL' (p k) + 1 ≤ 142; omega)
    rw [if_pos z]
    refine ⟨S4, v4, r4, len4, ?_, f2, exP_tr X3 f3⟩
    rw [head, if_pos ((J_lt (by omega) (by omega)).mpr z), f1]
    simp only [Option.bind_some, oc2]
    rw [J_s]
  · rw [if_neg z]
    refine ⟨S3, v3, r3, len3, ?_, e2, X3⟩
    rw [head, if_neg (fun y => z ((J_lt (by omega) (by omega)).mp y)), J_s]
theorem gc_sigL (hN : 100 ≤ N) (ham : a + 84 ≤ m) : ∀ (d k F : Nat) (S : shp) (v : vl) (r len : Nat), (k : Int) + d = g 8 → d < F → gI a m q h c g t p M sv ps re ca ch S v r len → OC S v (a + 9) (tSig t p (g 9) k).1 (tSig t p (g 9) k).2 r len →
    ∃ S' v' r' len', K_gc_printSignal_10 N F S v a (J (k : Int)) = some (J (((fSig t p g).1 : Nat) : Int), S', v') ∧ OC S' v' (a + 9) (fSig t p g).1 (fSig t p g).2 r' len' ∧ exP (a + 9) r len S v S' v' r' len'
  | _, _, 0, _, _, _, _, _, h, _, _ => absurd h (Nat.not_lt_zero _)
  | 0, k, F + 1, S, v, r, len, hk, _, hG, hO => by
    have hV := cR_V hG.2.2.1
    have h8 := stV_8 hV
    have hL := hG.2.2.1.1
    obtain ⟨k0, g5, n0, r6, n1, r7, n2, hh, hc, hg⟩ := cR_now hG.2.2.1
    have head : K_gc_printSignal_10 N (F + 1) S v a (J (k : Int)) = if J (g 8) = J 0 then (F_sb_append (a + 9) (J 45) S v).bind fun (q81, S82, w83) => oc2 q81 none fun r85 => (gr S82 a 1).bind fun r86 => grd (kin S82 r86 = some (0, 7)) <| (F_sb_length r86 S82 w83).bind fun x89 => some ((x89, S82, w83)) else (F_sb_length (a + 9) S v).bind fun x93 => some ((x93, S, v)) := by
      show Y_gc_printSignal_10 N (K_gc_printSignal_10 N F) S v a (J (k : Int)) = _
      unfold Y_gc_printSignal_10
      rw [grd_true _ k0, g5]
      simp only [Option.bind_some]
      rw [grd_true _ n0, r7]
      simp only [Option.bind_some]
      rw [grd_true _ n2, gi_rw, hg 8 (by decide), if_neg (fun y => by have := (J_lt (by omega) (by omega)).mp y; omega), hL.1.2.2.1]
      simp only [Option.bind_some]
      rw [grd_true _ hL.2.2.1, grd_true _ hL.2.2.1]
    by_cases z : g 8 = 0
    · have k00 : k = 0 := by omega
      subst k00
      have eF : fSig t p g = cP 45 (tSig t p (g 9) 0) := if_pos z
      obtain ⟨S4, v4, r4, len4, f1, f2, f3⟩ := sb_c (c := 45) hG.1 hO (by decide) (by show (0 : Nat) + 1 ≤ 142; decide)
      have G4 := gI_exP hG ham f3 f2
      have hL4 := G4.2.2.1.1
      rw [eF]
      refine ⟨S4, v4, r4, len4, ?_, f2, f3⟩
      rw [head, if_pos (by rw [z]), f1]
      simp only [Option.bind_some, oc2]
      rw [hL4.1.2.2.1]
      simp only [Option.bind_some]
      rw [grd_true _ hL4.2.2.1, sb_len f2]
      rfl
    · have eF : fSig t p g = tSig t p (g 9) k := by
        unfold fSig
        rw [if_neg z, show (g 8).toNat = k by omega]
      rw [eF]
      refine ⟨S, v, r, len, ?_, hO, exP_refl⟩
      rw [head, if_neg (fun y => z ((J_eq (by omega) (by decide)).mp y)), sb_len hO]
      rfl
  | d + 1, k, F + 1, S, v, r, len, hk, hF, hG, hO => by
    have hV := cR_V hG.2.2.1
    have h8 := stV_8 hV
    have hL := hG.2.2.1.1
    have tB := tSig_B hV (n9 := g 9) k (by omega)
    obtain ⟨k0, g5, n0, r6, n1, r7, n2, hh, hc, hg⟩ := cR_now hG.2.2.1
    have head : K_gc_printSignal_10 N (F + 1) S v a (J (k : Int)) = if J 0 < J (k : Int) then (F_sb_append (a + 9) (J 32) S v).bind fun (q18, S19, w20) => oc2 q18 none fun r22 => K_gc_printSignal_38 N (K_gc_printSignal_10 N F) S19 w20 a (J (k : Int)) else K_gc_printSignal_38 N (K_gc_printSignal_10 N F) S v a (J (k : Int)) := by
      show Y_gc_printSignal_10 N (K_gc_printSignal_10 N F) S v a (J (k : Int)) = _
      unfold Y_gc_printSignal_10
      rw [grd_true _ k0, g5]
      simp only [Option.bind_some]
      rw [grd_true _ n0, r7]
      simp only [Option.bind_some]
      rw [grd_true _ n2, gi_rw, hg 8 (by decide), if_pos ((J_lt (by omega) (by omega)).mpr (by omega)), hL.1.2.2.1]
      simp only [Option.bind_some]
      rw [grd_true _ hL.2.2.1]
    by_cases z : 0 < k
    · obtain ⟨S1, v1, r1, len1, f1, f2, f3⟩ := sb_c (c := 32) hG.1 hO (by decide) (by omega)
      have G1 := gI_exP hG ham f3 f2
      obtain ⟨S2, v2, r2, len2, a1, a2, a3⟩ := gc_sig38 (F := F) hN ham (by omega) G1 (show (cP 32 (tSig t p (g 9) k)).1 ≤ 14 * k + 1 by show (tSig t p (g 9) k).1 + 1 ≤ _; omega) f2
      have e2 : sigS t p (g 9) k (cP 32 (tSig t p (g 9) k)) = tSig t p (g 9) (k + 1) := by rw [tSig_s, if_pos z]
      rw [e2] at a2
      obtain ⟨S3, v3, r3, len3, b1, b2, b3⟩ := gc_sigL hN ham d (k + 1) F S2 v2 r2 len2 (by omega) (by omega) (gI_exP G1 ham a3 a2) a2
      refine ⟨S3, v3, r3, len3, ?_, b2, exP_tr (exP_tr f3 a3) b3⟩
      rw [head, if_pos ((J_lt (by decide) (by omega)).mpr (by omega)), f1]
      simp only [Option.bind_some, oc2]
      rw [a1]
      exact b1
    · obtain ⟨S2, v2, r2, len2, a1, a2, a3⟩ := gc_sig38 (F := F) hN ham (by omega) hG (show (tSig t p (g 9) k).1 ≤ 14 * k + 1 by omega) hO
      have e2 : sigS t p (g 9) k (tSig t p (g 9) k) = tSig t p (g 9) (k + 1) := by rw [tSig_s, if_neg z]
      rw [e2] at a2
      obtain ⟨S3, v3, r3, len3, b1, b2, b3⟩ := gc_sigL hN ham d (k + 1) F S2 v2 r2 len2 (by omega) (by omega) (gI_exP hG ham a3 a2) a2
      refine ⟨S3, v3, r3, len3, ?_, b2, exP_tr a3 b3⟩
      rw [head, if_neg (fun y => z (by have := (J_lt (by decide) (by omega)).mp y; omega)), a1]
      exact b1
-- the model's
theorem gm_sig33 {k F : Nat} (hN : 100 ≤ N) (hl : mdL S m) (hk : (k : Int) < g 8) (hV : stV h c g t p M) (hr : rowM (rw v (m + 1)) h c g t p M) (hX : X.1 ≤ 14 * k + 1) (hO : OM v m X.1 X.2) :
    ∃ v', K_gm_printSignal_33 N (K_gm_printSignal_12 N F S) S v m (J (k : Int)) = K_gm_printSignal_12 N F S v' m (J ((k + 1 : Nat) : Int)) ∧ OM v' m (sigS t p (g 9) k X).1 (sigS t p (g 9) k X).2 ∧ f07 m v v' := by
  have h8 := stV_8 hV
  obtain ⟨b1, b2⟩ := tp_B hV hk
  obtain ⟨l1, l2⟩ := tp_L hV hk
  have tk : (J (k : Int)).toInt = (k : Int) := J_toInt (by omega) (by omega)
  have t24 : (J 23 + J 2 * J (k : Int) + J 1).toInt = ((24 + 2 * k : Nat) : Int) := by
    rw [← J_mul, ← J_add, ← J_add, J_toInt (by omega) (by omega)]
    omega
  obtain ⟨v1, c1, c2, c3⟩ := gm_n (N := N) (x := t k) hN hl (by omega) hO (by omega)
  obtain ⟨v2, d1, d2, d3⟩ := gm_c (c := 47) hl c2 (by show X.1 + sgL' (t k) < 300; omega)
  obtain ⟨v3, e1, e2, e3⟩ := gm_n (N := N) (x := p k) hN hl (by omega) d2 (by show X.1 + sgL' (t k) + 1 + 11 ≤ 300; omega)
  have r2 : rw v2 (m + 1) = rw v (m + 1) := (d3.2.1 _ (by omega) (by omega)).trans (c3.2.1 _ (by omega) (by omega))
  have r3 : rw v3 (m + 1) = rw v (m + 1) := (e3.2.1 _ (by omega) (by omega)).trans r2
  have F3 := f07_tr (f07_tr c3 d3) e3
  have e20 : rw v (m + 1) 20 = J (g 9) := hr.1 20 (by decide)
  have head : K_gm_printSignal_33 N (K_gm_printSignal_12 N F S) S v m (J (k : Int)) = if J (k : Int) < J (g 9) then (F_gm_write m (J 42) S v3).bind fun w18 => K_gm_printSignal_12 N F S w18 m (J (k : Int) + (J 1)) else K_gm_printSignal_12 N F S v3 m (J (k : Int) + (J 1)) := by
    unfold K_gm_printSignal_33
    rw [grd_true _ hl.1, gm_segTime hl tk (by omega), (hr.2.1 k hk).1]
    simp only [Option.bind_some]
    rw [c1]
    simp only [Option.bind_some]
    rw [d1]
    simp only [Option.bind_some]
    rw [hl.2.1]
    simp only [Option.bind_some]
    rw [grd_true _ hl.2.2.1, grd_true _ (vin_of hl.2.2.1 t24 (by omega)), clampT t24]
    simp only [lt_def]
    rw [gi_rw, r2, (hr.2.1 k hk).2, e1]
    simp only [Option.bind_some]
    rw [gi_rw, r3, e20]
  unfold sigS
  by_cases z : (k : Int) < g 9
  · obtain ⟨v4, f1, f2, f3⟩ := gm_c (c := 42) hl e2 (by show X.1 + sgL' (t k) + 1 + sgL' (p k) < 300; omega)
    rw [if_pos z]
    refine ⟨v4, ?_, f2, f07_tr F3 f3⟩
    rw [head, if_pos ((J_lt (by omega) (by omega)).mpr z), f1]
    simp only [Option.bind_some]
    rw [J_s]
  · rw [if_neg z]
    refine ⟨v3, ?_, e2, F3⟩
    rw [head, if_neg (fun y => z ((J_lt (by omega) (by omega)).mp y)), J_s]
theorem gm_sigL (hN : 100 ≤ N) (hl : mdL S m) (hV : stV h c g t p M) : ∀ (d k F : Nat) (v : vl), (k : Int) + d = g 8 → d < F → rowM (rw v (m + 1)) h c g t p M → OM v m (tSig t p (g 9) k).1 (tSig t p (g 9) k).2 →
    ∃ v', K_gm_printSignal_12 N F S v m (J (k : Int)) = some (J (((fSig t p g).1 : Nat) : Int), v') ∧ OM v' m (fSig t p g).1 (fSig t p g).2 ∧ f07 m v v'
  | _, _, 0, _, _, h, _, _ => absurd h (Nat.not_lt_zero _)
  | 0, k, F + 1, v, hk, _, hr, hO => by
    have h8 := stV_8 hV
    have e19 : rw v (m + 1) 19 = J (g 8) := hr.1 19 (by decide)
    have head : K_gm_printSignal_12 N (F + 1) S v m (J (k : Int)) = if J (g 8) = J 0 then (F_gm_write m (J 45) S v).bind fun w19 => some (((gi w19 m 29), w19)) else some (((gi v m 29), v)) := by
      show Y_gm_printSignal_12 N (K_gm_printSignal_12 N F S) S v m (J (k : Int)) = _
      unfold Y_gm_printSignal_12
      rw [grd_true _ hl.1, hl.2.1]
      simp only [Option.bind_some]
      rw [grd_true _ hl.2.2.1, gi_rw, e19, if_neg (fun y => by have := (J_lt (by omega) (by omega)).mp y; omega)]
    by_cases z : g 8 = 0
    · have k00 : k = 0 := by omega
      subst k00
      have eF : fSig t p g = cP 45 (tSig t p (g 9) 0) := if_pos z
      obtain ⟨v4, f1, f2, f3⟩ := gm_c (c := 45) hl hO (by show (0 : Nat) < 300; decide)
      rw [eF]
      refine ⟨v4, ?_, f2, f3⟩
      rw [head, if_pos (by rw [z]), f1]
      simp only [Option.bind_some]
      rw [gi_rw, f2.1]
    · have eF : fSig t p g = tSig t p (g 9) k := by
        unfold fSig
        rw [if_neg z, show (g 8).toNat = k by omega]
      rw [eF]
      refine ⟨v, ?_, hO, f07_refl⟩
      rw [head, if_neg (fun y => z ((J_eq (by omega) (by decide)).mp y)), gi_rw, hO.1]
  | d + 1, k, F + 1, v, hk, hF, hr, hO => by
    have h8 := stV_8 hV
    have tB := tSig_B hV (n9 := g 9) k (by omega)
    have e19 : rw v (m + 1) 19 = J (g 8) := hr.1 19 (by decide)
    have head : K_gm_printSignal_12 N (F + 1) S v m (J (k : Int)) = if J 0 < J (k : Int) then (F_gm_write m (J 32) S v).bind fun w7 => K_gm_printSignal_33 N (K_gm_printSignal_12 N F S) S w7 m (J (k : Int)) else K_gm_printSignal_33 N (K_gm_printSignal_12 N F S) S v m (J (k : Int)) := by
      show Y_gm_printSignal_12 N (K_gm_printSignal_12 N F S) S v m (J (k : Int)) = _
      unfold Y_gm_printSignal_12
      rw [grd_true _ hl.1, hl.2.1]
      simp only [Option.bind_some]
      rw [grd_true _ hl.2.2.1, gi_rw, e19, if_pos ((J_lt (by omega) (by omega)).mpr (by omega))]
    by_cases z : 0 < k
    · obtain ⟨v1, f1, f2, f3⟩ := gm_c (c := 32) hl hO (by omega)
      obtain ⟨v2, a1, a2, a3⟩ := gm_sig33 (F := F) (v := v1) hN hl (by omega) hV (by rw [f3.2.1 _ (by omega) (by omega)]; exact hr) (show (cP 32 (tSig t p (g 9) k)).1 ≤ 14 * k + 1 by show (tSig t p (g 9) k).1 + 1 ≤ _; omega) f2
      have e2 : sigS t p (g 9) k (cP 32 (tSig t p (g 9) k)) = tSig t p (g 9) (k + 1) := by rw [tSig_s, if_pos z]
      rw [e2] at a2
      obtain ⟨v3, b1, b2, b3⟩ := gm_sigL hN hl hV d (k + 1) F v2 (by omega) (by omega) (by rw [a3.2.1 _ (by omega) (by omega), f3.2.1 _ (by omega) (by omega)]; exact hr) a2
      refine ⟨v3, ?_, b2, f07_tr (f07_tr f3 a3) b3⟩
      rw [head, if_pos ((J_lt (by decide) (by omega)).mpr (by omega)), f1]
      simp only [Option.bind_some]
      rw [a1]
      exact b1
    · obtain ⟨v2, a1, a2, a3⟩ := gm_sig33 (F := F) hN hl (by omega) hV hr (show (tSig t p (g 9) k).1 ≤ 14 * k + 1 by omega) hO
      have e2 : sigS t p (g 9) k (tSig t p (g 9) k) = tSig t p (g 9) (k + 1) := by rw [tSig_s, if_neg z]
      rw [e2] at a2
      obtain ⟨v3, b1, b2, b3⟩ := gm_sigL hN hl hV d (k + 1) F v2 (by omega) (by omega) (by rw [a3.2.1 _ (by omega) (by omega)]; exact hr) a2
      refine ⟨v3, ?_, b2, f07_tr a3 b3⟩
      rw [head, if_neg (fun y => z (by have := (J_lt (by decide) (by omega)).mp y; omega)), a1]
      exact b1
theorem prsig_both (hN : 100 ≤ N) (ham : a + 84 ≤ m) (hw : wfS S) (hR : cR S v a (h, c, g, t, p, M) sv ps re ca ch q) (hd : dR S v m (h, c, g, t, p, M) sv ps re ca ch) (hB : BO S v a m) (hT : dtT S v a) :
    PB S v a m (F_gc_printSignal N a S v) (fun S v => F_gm_printSignal N m S v) := by
  obtain ⟨X, r, len, hO, ho, hM, hA⟩ := hB
  have hL := hR.1
  have hl := hd.1
  have hV := cR_V hR
  have h8 := stV_8 hV
  obtain ⟨v1, a1, a2, a3⟩ := sb_zero hw hO
  have O0 : OC S v1 (a + 9) (tSig t p (g 9) 0).1 (tSig t p (g 9) 0).2 r len := by
    obtain ⟨y0, y1, y2, y3, y4, y5, y6⟩ := a2
    exact ⟨y0, y1, y2, y3, y4, y5, fun i hi => absurd hi (Nat.not_lt_zero _)⟩
  obtain ⟨S', v', r', len', b1, b2, b3⟩ := gc_sigL (N := N) hN ham (g 8).toNat 0 N S v1 r len (by omega) (by omega) (gI_exP ⟨hw, hl, hR, ho, hT⟩ ham a3 a2) O0
  have X' := exP_tr a3 b3
  have hl' := mdL_exP hl hw ham X'
  have b4 := rOut_exP hw hl ho X' b2
  have rr := fun x (hx : m ≤ x ∧ x < m + 8) => mrow_exP hl hw ham ho X' hx
  obtain ⟨R, e1, e29, e10, eo⟩ := th29 (v := v') (x := 0) hl'
  obtain ⟨v'', f1, f2, f3⟩ := gm_sigL (N := N) hN hl' hV (g 8).toNat 0 N (wr v' m R) (by omega) (by omega) (by rw [rw_wr_ne (by omega), rr _ (by omega)]; exact hd.2.1) ⟨by rw [rw_wr]; exact e29, Nat.zero_le _, fun i hi => absurd hi (Nat.not_lt_zero _)⟩
  refine ⟨J (((fSig t p g).1 : Nat) : Int), S', v', r, len, r', len', ?_, ho, X', (by have := hO.2.2.2.2.1; have := b2.2.2.2.2.1; omega), v'', ?_, f3.1, fun y y0 y7 => by rw [f3.2.1 y y0 y7, rw_wr_ne y0], fun k k10 k29 => by rw [f3.2.2 k k29, rw_wr]; exact eo k k10 k29, by rw [f3.2.2 10 (by decide), rw_wr]; exact e10, BO_07 b2 b4 ham (fun y y0 y7 => by rw [f3.2.1 y y0 y7, rw_wr_ne y0]) f2 (fSig_A hV)⟩
  · unfold F_gc_printSignal
    rw [grd_true _ hL.1.1, hL.1.2.2.1]
    simp only [Option.bind_some]
    rw [grd_true _ hL.2.2.1, a1]
    simp only [Option.bind_some]
    exact b1
  · show F_gm_printSignal N m S' v' = _
    unfold F_gm_printSignal
    rw [grd_true _ hl'.1, e1]
    simp only [lt_def]
    exact f1
end PSIGNAL
