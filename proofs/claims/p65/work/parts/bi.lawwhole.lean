/-! The law for every script. -/
section LAWWHOLE
variable {S S' S0 : shp} {v v' v0 : vl} {a o s N n m k q p0 r j : Nat} {L : List Int} {t p X : Nat → Int} {st d ag P G Q : Int} {f0 f1 f2 : Nat → Int32}
/-- the law's row begins as the class's draft -/
theorem lwR_0 {u : vl} (hB : hdB st d ag P G Q) (hF : hdF f0 st d ag P G Q (m : Int)) (hm : m ≤ 4) (hf : ∀ i, i < m → f1 i = J (t i) ∧ f2 i = J (p i)) (h0 : rw u o = f0) (h1 : rw u (o + 1) = f1) (h2 : rw u (o + 2) = f2) (h3 : ∀ j, u.2 o j = 0) : lwR u o (XX t p m) 0 (CZ st d ag) (gK P m) ∧ rw u o 10 = J (hK G Q 1) ∧ rw u o 11 = J (hK G Q 2) ∧ rw u o 12 = J (hK G Q 3) := by
  obtain ⟨⟨F0, F1, F9, F10, F11, F13, F14⟩, F⟩ := hF
  have z : ∀ j, j ≠ 0 → j ≠ 1 → j ≠ 9 → j ≠ 10 → j ≠ 11 → j ≠ 13 → j ≠ 14 → f0 j = J 0 := fun j a1 a2 a3 a4 a5 a6 a7 => by rw [F j a1 a2 a3 a4 a5 a6 a7]; decide
  have z' : ∀ j, j = 4 ∨ j = 5 ∨ j = 6 ∨ j = 7 ∨ j = 8 ∨ j = 12 ∨ j = 15 ∨ j = 16 ∨ j = 17 ∨ j = 18 ∨ j = 19 → f0 j = J 0 := fun j hj => z j (by omega) (by omega) (by omega) (by omega) (by omega) (by omega) (by omega)
  have lz : (0 : Int64) = JL 0 := by decide
  refine ⟨⟨?_, ?_, ?_, ?_⟩, ?_, ?_, ?_⟩
  · rw [h0]
    exact ⟨⟨F0, F1, z' 4 (by decide), z' 5 (by decide), z' 6 (by decide), z' 7 (by decide), z' 8 (by decide), F9⟩, F13, F14, z' 15 (by decide), z' 18 (by decide), z' 19 (by decide)⟩
  · rw [h0]
    exact ⟨0, 0, z' 16 (by decide), z' 17 (by decide), fun y => absurd rfl y⟩
  · refine ⟨0, ?_, ?_, ?_, ?_, ?_⟩
    · show u.2 o 20 = JL 0
      rw [h3 20]; exact lz
    · show st * (0 + 1) + 0 / 1000 = st
      omega
    · rfl
    · show -(99 * (0 : Int)) ≤ 0
      decide
    · show (0 : Int) ≤ 99 * 0
      decide
  · refine ⟨by rw [gK_8]; omega, fun k hk => ?_⟩
    rw [gK_8] at hk
    rw [h1, h2, mt_XX, mp_XX]
    unfold TK
    rw [if_pos (by omega), if_pos (by omega)]
    exact hf k (by omega)
  · rw [h0]; exact F10
  · rw [h0]; exact F11
  · rw [h0]; exact z' 12 (by decide)
/-- all that is made before the first act -/
theorem law_begun (hN : 13000000 ≤ N) (hw : wfS S) (ho : o = nxt S) (hp : kin S p0 = some (11, n)) (hp0 : p0 < o) (hn : n ≤ 65536) (hW : wdA S v o) (hD : dtT S v o) (hT : tPs S v o) (h0 : kad S 0 < o) (hC : wdS S v o lnW WW) :
    ∃ S' v' a X, F_lw_law N p0 S v = ((F_lw_isSame o a S' v').bind fun x35 => (if x35 = (J 0) then some (((J 0), S', v')) else K_lw_law_51 N N S' v' p0 o a (J 0))) ∧ LJ S' v' o a p0 n X 0 ∧ cn S' ≤ cn S + 110 ∧ cz S' ≤ cz S + 2000 := by
  obtain ⟨S1, v1, st, d, ag, P, G, Q, m, t, p, f0, f1, f2, e1, QQ, hB, hF, hm, hf, hc, hl⟩ := lw_init_ok (v0 := v) (N := N) (by omega) hw ho hp hp0 hn hW hD
  obtain ⟨L, eL⟩ : ∃ L, L = hdT st d ag P G Q ++ sgU t p m := ⟨_, rfl⟩
  rw [← eL] at QQ hl
  have hA : ascL L := by rw [eL]; exact asc_ok
  obtain ⟨r, len, w1, ⟨hO, hr, h16⟩, fr, ⟨qk, qb⟩, qn, qz, ⟨ll, l24⟩, q0, q1, q2, q3⟩ := QQ
  have hlen : len ≤ 142 := by have := hO.2.2.2.2.1.2; omega
  obtain ⟨nb, nr⟩ := OL_lt w1 hO
  obtain ⟨a, ha⟩ : ∃ a, a = nxt S1 := ⟨_, rfl⟩
  obtain ⟨A, u, c1, c2, c3⟩ := gc_made (v := v1) (N := N) (by omega) w1 ha
  have wA : wfS A := c3.2.2.2.2.2.2
  have nA : nxt A = a + 84 := by rw [nxt_mk c3, ha]
  have OA : OL A u (o + 3) L r len := OL_mk hO c3 (by omega) (by omega) (fun _ h => h)
  obtain ⟨B, w, d1, d2, d3⟩ := sb_told wA OA
  have wB : wfS B := d3.2.2.2.2.2.2
  rw [nA] at d1 d2 d3
  have nB : nxt B = a + 86 := by rw [nxt_mk d3, nA]
  have YB : gY B w a 8 := gY_mk c2 d3 (by omega) (fun _ _ _ _ h => h) (fun _ _ h => h)
  have LB := gcL_Y YB
  have r1B : rw w (a + 1) 1 = 0 := YB.1.2.2.2.1.2.2.1
  obtain ⟨C, z, k, t1, wC, t3, t4, t5, ⟨t6, ⟨t7, t8⟩, t9, t10⟩, t11⟩ := told_ok (N := N) (by omega) wB LB d2 (by omega) hA (by omega) r1B
  have hk7 : k ≤ 7 := t11
  -- the same, with the reader's rows as they were
  obtain ⟨y, ey⟩ : ∃ y, y = wr (wr z (a + 1) (rw w (a + 1))) (a + 2) (rw w (a + 2)) := ⟨_, rfl⟩
  have my : mkG (fun _ _ => False) (nxt B) k (5 * k) B w C y := by
    refine ⟨fun x hx => ?_, fun x j hx _ => (t6 x hx).2.2.2 j, t7, t8, t9, t10, wC⟩
    obtain ⟨b1, b2, b3, b4⟩ := t6 x hx
    refine ⟨b3, ?_, by rw [ey]; exact b2⟩
    rw [ey]
    by_cases x2 : x = a + 2
    · rw [x2, rw_wr]
    · rw [rw_wr_ne x2]
      by_cases x1 : x = a + 1
      · rw [x1, rw_wr]
      · rw [rw_wr_ne x1]
        exact b1 x1 x2
  have YC : gY C y a 8 := gY_mk YB my (by omega) (fun _ _ _ _ h => h) (fun _ _ h => h)
  have sv0 : sV (s00 10 0 0) := (s00_V (p1 := 10) (p2 := 0) (p3 := 0) (by decide) (by decide) (by decide)).1
  have RC : cR C y a (s00 10 0 0) none [] 0 0 0 0 := by
    obtain ⟨⟨x1, x2, -, -, -, x7⟩, -⟩ := id YC
    have dd : stD C y (a + 11) (s00 10 0 0) := (x7 0 (by decide)).2
    exact ⟨t3, ⟨⟨dd, fun i hi => by have hi' : (i : Int) < 0 := hi; omega⟩, sv0⟩, Or.inl ⟨rfl, x2 9⟩, ⟨0, x2 11, Nat.le_refl _, Nat.le_refl _, x2 12, Nat.zero_le _, fun i s his => by cases his⟩, x2 2, x2 3, x2 4⟩
  have fz : fri (a + 1) 8 y z := by
    rw [ey]
    exact ⟨rfl, fun x hx => by rw [rw_wr_ne (by omega), rw_wr_ne (by omega)]⟩
  have RZ : cR C z a (s00 10 0 0) none [] 0 0 0 0 := cR_in RC fz
  -- the cells below
  have lf : lowF o S v C z := by
    have f0 : lowF o S v S1 v1 := ⟨fun x hx => ⟨(fr x hx).1, (fr x hx).2.1, (fr x hx).2.2.2⟩, qk⟩
    have f3 : lowF o B w C z := ⟨fun x hx => ⟨(t6 x (by omega)).2.2.1, (t6 x (by omega)).1 (by omega) (by omega), (t6 x (by omega)).2.2.2⟩, t7⟩
    exact lowF_tr (lowF_tr (lowF_tr f0 (lowF_le (lowF_mk c3) (by omega))) (lowF_le (lowF_mk d3) (by omega))) f3
  have hTC := tPs_low (a := a) hT lf h0 (by omega)
  have hWC := wdS_low (a := a) hC lf (by omega)
  have rz1 : rw z (a + 1) 1 = J (L.length : Int) := by rw [t5, up_same]
  obtain ⟨S2, v2, g1, g2, g3, g4⟩ := ld_ok (N := N) (by omega) wC RZ hTC hWC t4 rz1 hB hm.2 hc eL
  -- the law's own cells
  have mid : ∀ x, x < a → kin S2 x = kin S1 x ∧ rw v2 x = rw v1 x ∧ (∀ j, gr S2 x j = gr S1 x j) ∧ v2.2 x = v1.2 x := fun x hx => by
    have nC : x < nxt C := by rw [nxt_mk my, nB]; omega
    obtain ⟨b1, b2, b3, b4⟩ := t6 x (by omega)
    obtain ⟨y1, y2⟩ := g3.2.1 x (Or.inl hx) nC
    have k3 := c3.1 x (by omega)
    have k4 := d3.1 x (by omega)
    refine ⟨(g3.2.2.1 x nC).trans (b3.trans (k4.1.trans k3.1)), y1.trans ((b1 (by omega) (by omega)).trans (k4.2.1.trans k3.2.1)), fun j => (y2 j).trans ((b4 j).trans ((d3.2.1 x j (by omega) (fun h => h)).trans (c3.2.1 x j (by omega) (fun h => h)))), (g3.1 x nC).trans (b2.trans (k4.2.2.trans k3.2.2))⟩
  obtain ⟨l1, l2, l3, l4, l5⟩ := ll
  have o3 : o + 3 ≤ a := by omega
  have lwL2 : lwL S2 o := ⟨by rw [(mid o (by omega)).1]; exact l1, by rw [(mid o (by omega)).2.2.1]; exact l2, by rw [(mid (o + 1) (by omega)).1]; exact l3, by rw [(mid o (by omega)).2.2.1]; exact l4, by rw [(mid (o + 2) (by omega)).1]; exact l5⟩
  have e0 : rw v2 o = f0 := (mid o (by omega)).2.1.trans q0
  obtain ⟨W1, W2⟩ := lwR_0 (o := o) (u := v2) hB hF hm.2 hf e0 ((mid (o + 1) (by omega)).2.1.trans q1) ((mid (o + 2) (by omega)).2.1.trans q2) (fun j => by rw [(mid o (by omega)).2.2.2]; exact q3 j)
  have lg : lowF o C z S2 v2 := ⟨fun x hx => by
    have nC : x < nxt C := by rw [nxt_mk my, nB]; omega
    exact ⟨g3.2.2.1 x nC, g3.2.1 x (Or.inl (by omega)) nC⟩, g3.2.2.2.1⟩
  have hT2 := tPs_low (a := a) hT (lowF_tr lf lg) h0 (by omega)
  have kp2 : kin S2 p0 = some (11, n) := by rw [((lowF_tr lf lg).1 p0 hp0).1]; exact hp
  obtain ⟨h1, h2, h3, h4, h5, h6⟩ := id hB
  have R2 : cR S2 v2 a (hK G Q, CZ st d ag, gK P m, mt (XX t p m), mp (XX t p m), fun _ _ => (0 : Int)) none [] 0 0 0 0 := by
    rw [mt_XX, mp_XX]
    exact g4
  have cq : cn S2 ≤ cn C ∧ cz S2 ≤ cz C := ⟨g3.2.2.2.2.2.1.2, g3.2.2.2.2.2.2.2⟩
  refine ⟨S2, v2, a, XX t p m, ?_, ⟨hK G Q, CZ st d ag, gK P m, fun _ _ => 0, none, [], 0, 0, 0, g2, R2, ⟨lwL2, W1, W2⟩, rB_XX hm.2 hc, ⟨?_, ?_⟩, ⟨?_, ?_, ?_⟩, ⟨?_, ?_, ?_⟩, ⟨o3, hT2⟩, kp2, hp0⟩, ?_, ?_⟩
  · have x1 : gi v2 o 1 = J (m : Int) := by rw [gi_rw, e0]; exact hF.1.2.1
    have kAo : kin A o = some (0, 6) := by rw [(c3.1 o (by omega)).1]; exact l1
    have gAo : gr A o 24 = some (o + 3) := by rw [c3.2.1 o 24 (by omega) (fun h => h)]; exact l24
    unfold F_lw_law
    rw [grd_true _ (hw _ (Nat.le_refl _)), lt3_def, ← ho, e1, Option.bind_some]
    simp only []
    rw [grd_true _ (w1 _ (Nat.le_refl _)), lt3_def, ← ha, c1, Option.bind_some]
    simp only []
    rw [grd_true _ kAo, gAo, Option.bind_some, grd_true _ OA.1, d1, Option.bind_some]
    simp only []
    rw [oc2_s, t1, Option.bind_some]
    simp only []
    rw [g1, Option.bind_some]
    simp only []
    rw [if_pos x1.symm]
  · show (0 : Int) - 0 = P * (0 - 0) + 0
    simp
  · refine ⟨fun i hi => ?_, ?_, ?_, fun y => ?_⟩
    · rw [gK_8] at hi
      rw [mt_XX, mp_XX]
      unfold TK
      rw [if_pos (by omega), if_pos (by omega)]
      have := hc.1 i (by omega)
      omega
    · rw [gK_8, mp_XX]
      unfold TK
      rw [if_pos (by omega), show ((m : Int) - 1).toNat = m - 1 by omega]
      have := hc.2.2 rfl
      omega
    · show (0 : Int) ≤ 64
      decide
    · rw [gK_8] at y
      have y' : (0 : Int) = (m : Int) := y
      omega
  · show st ≤ 41
    exact h1.2
  · show G ≤ 32
    omega
  · show Q ≤ 32
    omega
  · show (0 : Int) ≤ DD 0
    decide
  · show st ≤ DD 0 + 50
    unfold DD
    omega
  · show (-1 : Int) ≤ DD 0 + 64
    decide
  · have := c3.2.2.2.2.1
    have := d3.2.2.2.2.1
    omega
  · have := c3.2.2.2.2.2.1
    have := d3.2.2.2.2.2.1
    omega
/-- the law, for every script: it comes to its end, with true -/
theorem law_run (hF : flO) (hN : 13000000 ≤ N) (hw : wfS S) (ho : o = nxt S) (hp : kin S p0 = some (11, n)) (hn : n ≤ 65536) (hW : wdA S v o) (hD : dtT S v o) (hT : tPs S v o) (h0 : kad S 0 < o) (hC : wdS S v o lnW WW) : ∃ S' v', F_lw_law N p0 S v = some (J 1, S', v') ∧ cn S' ≤ cn S + 1000 ∧ cz S' ≤ cz S + 20000 := by
  have n1 : ¬ J 1 = J 0 := by decide
  obtain ⟨S1, v1, a, X, e1, H, c1, c2⟩ := law_begun (v := v) (N := N) hN hw ho hp (by rw [ho]; exact kin_lt hw hp) hn hW hD hT h0 hC
  obtain ⟨S', v', f1, f2, f3⟩ := law_loop (N := N) hF flC_holds hN hn 24 0 N S1 v1 rfl (by omega) H
  refine ⟨S', v', ?_, by omega, by omega⟩
  rw [e1, lj_same hF flC_holds H, Option.bind_some, if_neg n1]
  exact f1
end LAWWHOLE
