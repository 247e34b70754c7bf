/-! The law: from its start to its end. -/
section LAWSTART
variable {S S' : shp} {v v' : vl} {a b m N n k l oa p0 : Nat} {ln : Nat → Nat} {W : Nat → Nat → Int}
theorem exN_mk (h : mkG (fun _ _ => False) a k l S v S' v') (ha : a = nxt S) : exN a k l S v S' v' := by
  obtain ⟨a1, a2, a3, a4, a5, a6, a7⟩ := h
  exact ⟨fun x hx => (a1 x (by omega)).2.2, fun x _ hx => ⟨(a1 x (by omega)).2.1, fun j => a2 x j (by omega) (fun q => q)⟩, fun x hx => (a1 x (by omega)).1, a3, a4, ⟨by omega, by omega⟩, ⟨by omega, by omega⟩⟩
theorem mdL_mk {E : Nat → Nat → Prop} (hl : mdL S m) (h : mkG E b k l S v S' v') (hb : m + 8 ≤ b) (hE : ∀ j, ¬ E m j) : mdL S' m := by
  obtain ⟨b1, b2, -⟩ := h
  obtain ⟨m0, g0, m1, ⟨g1, m2⟩, ⟨g2, m3⟩, ⟨g3, m4⟩, ⟨g4, m5⟩, ⟨g16, m6⟩, ⟨g28, m7⟩⟩ := hl
  have gg : ∀ j, gr S' m j = gr S m j := fun j => b2 m j (by omega) (hE j)
  have kk : ∀ y, y < b → kin S' y = kin S y := fun y hy => (b1 y hy).1
  exact ⟨by rw [kk _ (by omega)]; exact m0, by rw [gg]; exact g0, by rw [kk _ (by omega)]; exact m1, ⟨by rw [gg]; exact g1, by rw [kk _ (by omega)]; exact m2⟩, ⟨by rw [gg]; exact g2, by rw [kk _ (by omega)]; exact m3⟩, ⟨by rw [gg]; exact g3, by rw [kk _ (by omega)]; exact m4⟩, ⟨by rw [gg]; exact g4, by rw [kk _ (by omega)]; exact m5⟩, ⟨by rw [gg]; exact g16, by rw [kk _ (by omega)]; exact m6⟩, ⟨by rw [gg]; exact g28, by rw [kk _ (by omega)]; exact m7⟩⟩
theorem gcL_Y (h : gY S v a 8) : gcL S a := by
  obtain ⟨⟨x1, x2, ⟨x3, x4⟩, ⟨⟨t1, t2, t3, t4⟩, t5, -⟩, ⟨⟨b1, b2, b3⟩, -⟩, x7⟩, y2, y3, y4⟩ := h
  obtain ⟨p1, p2⟩ := x7 0 (by decide)
  obtain ⟨q1, q2⟩ := x7 1 (by decide)
  obtain ⟨r1, r2⟩ := x7 2 (by decide)
  obtain ⟨s1, s2⟩ := x7 3 (by decide)
  exact ⟨⟨x1, x3, x4, p1, q1, r1, s1, y2⟩, ⟨t1, t2, t3, t4⟩, b1, y3, fun i hi => (y4 i hi).1, t5, p2.1, q2.1, r2.1, s2.1, fun i hi => (y4 i hi).2⟩
theorem law_made (hN : 7000000 ≤ N) (hw : wfS S) (ha : a = nxt S) (kp : kin S p0 = some (11, n)) (hT : tPs S v a) (hW : wdS S v a ln W) (hD : dtT S v a) (h0 : kad S 0 < a) :
    ∃ S' v' m oa, F_lw_law N p0 S v = K_lw_law_23 N N S' v' p0 a m oa (J ((0 : Nat) : Int)) ∧ LI S' v' a m oa p0 n ln W 0 ∧ cn S' = cn S + 93 ∧ cz S' = cz S + 4605 := by
  obtain ⟨A, u, c1, c2, c3⟩ := gc_made (v := v) (N := N) (by omega) hw ha
  have wA : wfS A := c3.2.2.2.2.2.2
  obtain ⟨m, hm⟩ : ∃ m, m = nxt A := ⟨_, rfl⟩
  have nA : nxt A = a + 84 := by rw [nxt_mk c3, ha]
  obtain ⟨B, w, d1, d2, d3, ⟨d4, d5⟩, d6⟩ := gm_made (v := u) (N := N) (by omega) wA hm
  have wB : wfS B := d6.2.2.2.2.2.2
  have nB : nxt B = m + 8 := by rw [nxt_mk d6, hm]
  obtain ⟨C, eC⟩ : ∃ C, C = grow B (3, 1) 1 := ⟨_, rfl⟩
  obtain ⟨z, ez⟩ : ∃ z, z = zero w (nxt B) := ⟨_, rfl⟩
  have mC : mkG (fun _ _ => False) (m + 8) 1 1 B w C z := by
    rw [eC, ez, ← nB]
    exact mkG_grow wB
  have wC : wfS C := mC.2.2.2.2.2.2
  have Mt := mkG_tr (Nat.le_refl a) (mkG_tr (Nat.le_refl a) c3 (mkG_dn d6 (by omega) (fun _ _ _ h => h)) (fun _ _ _ h => h)) (mkG_dn mC (by omega) (fun _ _ _ h => h)) (fun _ _ _ h => h)
  have hx := exN_mk Mt ha
  have Y := gY_mk (gY_mk c2 d6 (by omega) (fun _ _ _ _ h => h) (fun _ _ h => h)) mC (by omega) (fun _ _ _ _ h => h) (fun _ _ h => h)
  have hL := gcL_Y Y
  have hl : mdL C m := mdL_mk d2 mC (Nat.le_refl _) (fun _ h => h)
  have kp' : kin C p0 = some (11, n) := by rw [hx.2.2.1 p0 (kin_lt hw kp)]; exact kp
  have pa : p0 < a := by have := kin_lt hw kp; omega
  have rm : rw z m = rw w m := (mC.1 m (by omega)).2.1
  have rz : ∀ j, j ≠ 19 → rw z m j = 0 := fun j hj => by rw [rm]; exact d4 j hj
  obtain ⟨⟨x1, x2, -, ⟨-, t5, t6, t7, t8⟩, ⟨⟨b1, b2, b3⟩, b4, b5⟩, x7⟩, -⟩ := id Y
  have sv0 : sV (s00 10 0 0) := (s00_V (p1 := 10) (p2 := 0) (p3 := 0) (by decide) (by decide) (by decide)).1
  refine ⟨C, z, m, nxt B, ?_, ⟨(s00 10 0 0, none, [], 0, 0, 0), wC, ?_, ?_, ?_⟩, ?_, ?_⟩
  · unfold F_lw_law
    rw [grd_true _ (hw _ (Nat.le_refl _)), lt3_def, ← ha, c1]
    simp only [Option.bind_some]
    rw [grd_true _ (wA _ (Nat.le_refl _)), lt3_def, ← hm, d1]
    simp only [Option.bind_some]
    rw [grd_true _ (wB _ (Nat.le_refl _)), lt3_def, ← eC, ← ez]
    rfl
  · have dd : stD C z (a + 11) (s00 10 0 0) := (x7 0 (by decide)).2
    exact ⟨hL, ⟨⟨dd, fun i hi => by have hi' : (i : Int) < 0 := hi; omega⟩, sv0⟩, Or.inl ⟨rfl, x2 9⟩, ⟨0, x2 11, Nat.le_refl _, Nat.le_refl _, x2 12, Nat.zero_le _, fun i s his => by cases his⟩, x2 2, x2 3, x2 4⟩
  · exact ⟨hl, by rw [(mC.1 (m + 1) (by omega)).2.1]; exact d3, Or.inl ⟨rfl, rz 6 (by decide)⟩, rz 5 (by decide), fun i s his => (by cases his), rz 7 (by decide), rz 8 (by decide), rz 9 (by decide)⟩
  · refine ⟨⟨tPs_exL hT hw (exN_L hx), wdS_exL hW hw (exN_L hx), dtT_exN hD hw hx, by rw [hx.2.2.2.1]; exact h0⟩, ⟨0, fun _ => 0, ⟨by decide, fun j hj => absurd hj (Nat.not_lt_zero _), fun j hj => absurd hj (Nat.not_lt_zero _)⟩, ⟨by decide, fun j hj => absurd hj (Nat.not_lt_zero _), fun j hj => absurd hj (Nat.not_lt_zero _)⟩, t6, rz 17 (by decide), by rw [rz 18 (by decide), t7], by rw [rm, d5, t8]⟩, ⟨(0, fun _ => 0), a + 10, 16, ⟨b1, ⟨b4 1, b4 3⟩, b2, b3, ⟨by decide, Or.inl rfl⟩, fun i => ⟨0, by rw [b5 i]; decide⟩, fun i hi => absurd hi (Nat.not_lt_zero _)⟩, ⟨b3, Or.inl rfl⟩, ⟨rz 29 (by decide), by decide, fun i hi => absurd hi (Nat.not_lt_zero _)⟩, fun i hi => absurd hi (Nat.not_lt_zero _)⟩, ⟨by omega, by rw [eC, kin_grow, if_pos rfl], by omega⟩, kp', pa⟩
  · have := Mt.2.2.2.2.1
    omega
  · have := Mt.2.2.2.2.2.1
    omega
/-- the law, for every script: it comes to its end, with true -/
theorem law_run (hF : flO) (hN : 7000000 ≤ N) (hw : wfS S) (ha : a = nxt S) (hn : n ≤ 3072) (kp : kin S p0 = some (11, n)) (hT : tPs S v a) (hW : wdS S v a ln W) (hD : dtT S v a) (h0 : kad S 0 < a) :
    ∃ S' v', F_lw_law N p0 S v = some (J 1, S', v') ∧ cn S' ≤ cn S + 20000 ∧ cz S' ≤ cz S + 300000 := by
  obtain ⟨S1, v1, m, oa, e1, e2, e3, e4⟩ := law_made hN hw ha kp hT hW hD h0
  obtain ⟨S', v', f1, f2, f3⟩ := law_loop hF hN hn N 0 0 S1 v1 (Nat.zero_le _) (by omega) rfl e2
  exact ⟨S', v', e1.trans f1, by omega, by omega⟩
end LAWSTART
