/-! The text that is read: the call, both sides together. -/
section LOADC
variable {S S' T : shp} {v w v' u : vl} {a b m N n q : Nat} {B : Nat → Int} {z : Nat → Int} {R0 R Q : Nat → Int32} {ln : Nat → Nat} {W : Nat → Nat → Int} {s now : sta} {sv : Option sta} {ps : List sta} {re ca ch : Int}
noncomputable def tx_rest (N a : Nat) (S : shp) (w8 : vl) : Option (Int32 × vl) := (F_tx_isWord N (a + 1) (kad S 10) S w8).bind fun x9 => (if x9 = (J 0) then (F_tx_fail (a + 1) (J 1) S w8).bind fun (x10, w11) => K_tx_read_65 N N S w11 (a + 1) x10 (J 0) else (F_tx_readClock N (a + 1) S w8).bind fun (x18, w19) => K_tx_read_65 N N S w19 (a + 1) x18 (J 0))
theorem jd_read (hN : 1000 ≤ N) (hL : gcL S a) (ham : a ≤ m) (hC : CS S v a n B ln W z) (hz : zI n z) (hD : stD S v (a + 3) (s00 10 0 0)) (hT : tPs S v a) :
    JD S a m n B ln W v z (s00 0 0 0) (tx_rest N a S v) (fun T w => F_gm_readText N m T w) (fun _ => True) := by
  have n1 : ¬ J 1 = J 0 := by decide
  have n5 := hC.1.1
  have stop : ∀ (u : vl), K_tx_read_65 N N S u (a + 1) (J 0) (J 0) = some (J 0, u) := by
    intro u
    have h : ∀ F, 0 < F → K_tx_read_65 N F S u (a + 1) (J 0) (J 0) = some (J 0, u) := by
      intro F hF
      cases F with
      | zero => omega
      | succ F => exact tx_stop (q := 0) (x := 0) hL rfl
    exact h N (by omega)
  have w10 := tx_word (N := N) (j := 10) hN hL hC hz (by decide)
  have b10 := (wdZ_B (B := B) (z := z) (len := ln 10) (X := W 10)).1
  have mt : ∀ (T : shp) (w : vl), mdL T m → F_gm_readText N m T w = ((F_gm_readClock N m T w).bind fun (x2, w3) => if x2 = J 0 then some (J 0, w3) else F_gm_readEnd N m T w3).bind fun (x, w5) => if x = J 0 then some (J 0, w5) else K_gm_readText_16 N N T w5 m := by
    intro T w hl
    unfold F_gm_readText
    rw [grd_true _ hl.1]
    exact bind_two (A := F_gm_readClock N m T w) (E := fun w8 => F_gm_readEnd N m T w8) (K := fun w10 => K_gm_readText_16 N N T w10 m)
  rcases b10 with o | o
  · obtain ⟨R1, a1, C1⟩ := tx_failS (x := 1) hL hC
    refine ⟨0, flZ 1 z, s00 0 0 0, _, ?_, C1, fri_wr (by omega), Or.inl rfl, fun y => by omega, fun T R0 w hl hw hr => ?_⟩
    · unfold tx_rest
      rw [w10, o]
      simp only [Option.bind_some, if_true]
      rw [a1]
      exact stop _
    · obtain ⟨Q1, k1, k2⟩ := gm_failS (x := 1) hl ham hw hz.1
      refine ⟨_, ?_, k2, fri_wr (by omega), fun y => by omega⟩
      show F_gm_readText N m T w = _
      rw [mt T w hl]
      unfold F_gm_readClock
      rw [grd_true _ hl.1, (gm_acceptS hN hl ham hw hz (by decide)).1 o]
      simp only [Option.bind_some, if_true]
      rw [k1]
      simp only [Option.bind_some]
      rw [grd_true _ (by decide)]
      rfl
  · obtain ⟨x, z1, s1, v1, e1, e2, e3, e4, e5, e6⟩ := jd_clock (N := N) hN hL ham hC hz hD o
    have cl : tx_rest N a S v = K_tx_read_65 N N S v1 (a + 1) (J x) (J 0) := by
      unfold tx_rest
      rw [w10, o]
      simp only [Option.bind_some]
      rw [if_neg n1, e1]
      rfl
    have md : ∀ (T : shp) (R0 : Nat → Int32) (w : vl), mdL T m → MS T w a m n B ln W R0 z → rwM (rw w (m + 1)) (s00 0 0 0) → ∃ w1, MS T w1 a m n B ln W R0 z1 ∧ fri m 2 w w1 ∧ (x = 1 → rwM (rw w1 (m + 1)) s1) ∧ F_gm_readText N m T w = if J x = J 0 then some (J 0, w1) else K_gm_readText_16 N N T w1 m := by
      intro T R0 w hl hw hr
      obtain ⟨w1, f1, f2, f3, f4⟩ := e6 T R0 w hl hw hr
      try dsimp only at f1
      have f1' : ((F_gm_readClock N m T w).bind fun (x2, w3) => if x2 = J 0 then some (J 0, w3) else F_gm_readEnd N m T w3) = some (J x, w1) := f1
      refine ⟨w1, f2, f3, f4, ?_⟩
      rw [mt T w hl, f1']
      rfl
    rcases e4 with y | y
    · subst y
      refine ⟨0, z1, s1, v1, by rw [cl]; exact stop _, e2, e3, Or.inl rfl, fun y => by omega, fun T R0 w hl hw hr => ?_⟩
      obtain ⟨w1, f1, f2, f3, f4⟩ := md T R0 w hl hw hr
      try dsimp only at f1
      exact ⟨w1, by show F_gm_readText N m T w = _; rw [f4, if_pos rfl], f1, f2, fun y => by omega⟩
    · subst y
      obtain ⟨i1, i2, i3, i4⟩ := e5 rfl
      have z09 := i1.2.1
      obtain ⟨x, z2, s2, v2, g1, g2, g3, g4, g5, g6⟩ := jd_loop (N := N) (m := m) hN hL ham (n + 1) N N 0 v1 z1 s1 (by omega) (by omega) (by omega) (by omega) e2 i1 i3 i4 (tPs_fri hT e3 (by omega))
      refine ⟨x, z2, s2, v2, by rw [cl]; exact g1, g2, fri_tr e3 g3, g4, g5, fun T R0 w hl hw hr => ?_⟩
      obtain ⟨w1, f1, f2, f3, f4⟩ := md T R0 w hl hw hr
      try dsimp only at f1
      obtain ⟨w', k1, k2, k3, k4⟩ := g6 T R0 w1 hl f1 (f3 rfl)
      try dsimp only at k1
      exact ⟨w', by show F_gm_readText N m T w = _; rw [f4, if_neg n1]; exact k1, k2, fri_tr f2 k3, k4⟩
/-- the text of both sides, and what the last reading said -/
def IR (v : vl) (a m : Nat) : Prop := ∃ (n : Nat) (B : Nat → Int), CB v a n B ∧ MBy v m n B ∧ rw v (a + 1) 1 = J (n : Int) ∧ rw v m 17 = J (n : Int) ∧ rw v m 18 = rw v (a + 1) 2 ∧ rw v m 19 = rw v (a + 1) 3
/-- the model's part: at u, with what the class's reading left -/
theorem gm_loadS {x : Int} {z0 z' : Nat → Int} {s' : sta} (hN : 100000 ≤ N) (hl : mdL T m) (ham : a + 84 ≤ m) (hd : dR T u m now sv ps re ca ch) (hs : sV now) (hM : MBy u m n B) (hW : wdS T u a ln W) (r17 : rw u m 17 = J (n : Int)) (hz0 : z0 2 = 0 ∧ z0 3 = -1 ∧ z0 10 = 0 ∧ z0 5 = 0 ∧ z0 6 = 0 ∧ z0 7 = 0) (hx : x = 0 ∨ x = 1) (hV : x = 1 → sV s')
    (e6 : ∀ (T : shp) (R0 : Nat → Int32) (w : vl), mdL T m → MS T w a m n B ln W R0 (adZ B n z0) → rwM (rw w (m + 1)) (s00 0 0 0) → ∃ w', F_gm_readText N m T w = some (J x, w') ∧ MS T w' a m n B ln W R0 z' ∧ fri m 2 w w' ∧ (x = 1 → rwM (rw w' (m + 1)) s')) :
    ∃ w', F_gm_loadCounter N m T u = some (if x = 0 then J (-1) else J (s'.2.2.1 8), w') ∧ fri m 8 u w' ∧ (rw w' m 29 = rw u m 29 ∧ rw w' (m + 7) = rw u (m + 7)) ∧ rw w' m 17 = J 0 ∧ rw w' m 18 = J (z' 2) ∧ rw w' m 19 = J (z' 3) ∧ rw w' m 10 = J 0 ∧ dR T w' m (if x = 0 then now else s') (if x = 0 then sv else none) (if x = 0 then ps else []) re ca ch := by
  have n5 := hM.1
  have n1 : ¬ J 1 = J 0 := by decide
  obtain ⟨l0, g0, l1, ⟨g1, l2⟩, ⟨g2, l3⟩, ⟨g3, l4⟩, ⟨g4, l5⟩, ⟨g16, l6⟩, ⟨g28, l7⟩⟩ := id hl
  obtain ⟨-, h1, hsv, h5, h6, h7, h8, h9⟩ := id hd
  obtain ⟨w3, e3⟩ : ∃ w3, w3 = wr (th u m 0) (m + 2) (cpR (rw (th u m 0) (m + 1)) (rw (th u m 0) (m + 2)) 0 0 199) := ⟨_, rfl⟩
  have cp := gm_copies (S := T) (N := N) (v := th u m 0) (a := m + 1) (b := m + 2) (i := 0) (j := 0) (cnt := 199) hN l1 l2 (by decide) (by decide) (by decide) (by decide) (Or.inr (Nat.le_refl _))
  rw [← e3] at cp
  obtain ⟨R, b1, b2⟩ := gm_begins (N := N) (w := w3) (by omega) hl
  obtain ⟨Q9, eQ⟩ : ∃ Q9, Q9 = up (up (up (up (rw w3 m) 20 (J 0)) 21 (J (-1))) 22 (J 0)) 27 (J 0) := ⟨_, rfl⟩
  have w3m : ∀ k, k ≠ 10 → rw w3 m k = rw u m k := fun k hk => by rw [e3, rw_wr_ne (by omega), rw_th0 hk]
  have w3m10 : rw w3 m 10 = J 0 := by rw [e3, rw_wr_ne (by omega)]; exact th10
  have w3o : ∀ y, y ≠ m → y ≠ m + 2 → rw w3 y = rw u y := fun y y0 y2 => by rw [e3, rw_wr_ne y2, rw_th y0]
  have w32 : ∀ k, k < 199 → rw w3 (m + 2) k = rw u (m + 1) k := fun k hk => by rw [e3, rw_wr, cpR_lt hk, rw_th (by omega)]
  have q9 : ∀ k, k < 20 → Q9 k = rw w3 m k := fun k hk => by rw [eQ, up_ne (by omega), up_ne (by omega), up_ne (by omega), up_ne (by omega)]
  obtain ⟨z02, z03, z010, z05, z06, z07⟩ := hz0
  have hM4 : MBy (wr w3 (m + 1) R) m n B := ⟨n5, hM.2.1, fun i hi => by rw [rw_wr_ne (by omega), w3o _ (by omega) (by omega)]; exact hM.2.2 i hi⟩
  obtain ⟨Q10, d1, d2, -⟩ := MR_adv0 (S := T) (N := N) (w := wr w3 (m + 1) R) (z := z0) (R0 := Q9) (R := Q9) (by omega) hl hM4 (fun _ _ => rfl) (by rw [q9 17 (by decide), w3m 17 (by decide)]; exact r17) (by rw [eQ, z02]; rfl) (by rw [eQ, z03]; rfl) (by rw [eQ, z010]; rfl) (by rw [eQ, z05, z06, z07]; rfl) (by omega)
  have hMS : MS T (wr (wr w3 (m + 1) R) m Q10) a m n B ln W Q9 (adZ B n z0) := by
    refine ⟨⟨n5, hM.2.1, fun i hi => by rw [rw_wr_ne (by omega)]; exact hM4.2.2 i hi⟩, wdS_eq hW (fun b hb => ?_), by rw [rw_wr]; exact d2⟩
    rw [rw_wr_ne (by omega), rw_wr_ne (by omega), w3o _ (by omega) (by omega)]
  obtain ⟨w', f1, f2, f3, f4⟩ := e6 T Q9 _ hl hMS (by rw [rw_wr_ne (by omega), rw_wr]; exact b2)
  try dsimp only at f1
  obtain ⟨-, -, k0, -, k20, k21, -⟩ := f2
  obtain ⟨Q8, eQ8⟩ : ∃ Q8, Q8 = up (up (up (rw w' m) 17 (J 0)) 18 (J (z' 2))) 19 (J (z' 3)) := ⟨_, rfl⟩
  have q8 : ∀ k, k < 17 → Q8 k = rw w3 m k := fun k hk => by rw [eQ8, up_ne (by omega), up_ne (by omega), up_ne (by omega), k0 k (by omega), q9 k (by omega)]
  have q29 : Q8 29 = rw u m 29 := by
    rw [eQ8, up_ne (by decide), up_ne (by decide), up_ne (by decide), k0 29 (by omega), eQ, up_ne (by decide), up_ne (by decide), up_ne (by decide), up_ne (by decide), w3m 29 (by decide)]
  -- rows that stay
  have ow : ∀ y, y ≠ m → y ≠ m + 1 → y ≠ m + 2 → rw (wr w' m Q8) y = rw u y := fun y y0 y1 y2 => by
    rw [rw_wr_ne y0, f3.2 y (by omega), rw_wr_ne y0, rw_wr_ne y1, w3o y y0 y2]
  have o2 : ∀ k, k < 199 → rw (wr w' m Q8) (m + 2) k = rw u (m + 1) k := fun k hk => by
    rw [rw_wr_ne (by omega), f3.2 _ (by omega), rw_wr_ne (by omega), rw_wr_ne (by omega), w32 k hk]
  have e2' : (wr w' m Q8).2 = u.2 := by
    show w'.2 = u.2
    rw [f3.1]
    show w3.2 = u.2
    rw [e3]
    rfl
  have head : F_gm_loadCounter N m T u = if J x = J 0 then (F_gm_copies N (m + 2) (J 0) (m + 1) (J 0) (J 199) T (wr w' m Q8)).bind fun w16 => some (((J (-1)), w16)) else lt (si (si (wr w' m Q8) m 5 (J 0)) m 6 (J 0)) fun w17 => some (((gi w17 (m + 1) 19), w17)) := by
    unfold F_gm_loadCounter
    rw [grd_true _ l0]
    simp only [lt_def, si_th]
    rw [g0]
    simp only [Option.bind_some]
    rw [g1]
    simp only [Option.bind_some]
    rw [show J 0 = J ((0 : Nat) : Int) from rfl, show J 199 = J ((199 : Nat) : Int) from rfl, cp]
    simp only [Option.bind_some]
    rw [b1]
    simp only [Option.bind_some, si_wr, rw_wr, wr_wr]
    rw [rw_wr_ne (show m ≠ m + 1 by omega)]
    rw [show up (up (up (up (rw w3 m) 20 (J ((0 : Nat) : Int))) 21 (J (-1))) 22 (J ((0 : Nat) : Int))) 27 (J ((0 : Nat) : Int)) = Q9 from eQ.symm, d1]
    simp only [Option.bind_some]
    rw [f1]
    simp only [Option.bind_some, si_wr, gi_x, rw_wr, wr_wr]
    rw [up_ne (show 20 ≠ 17 by decide), k20, up_ne (show 21 ≠ 18 by decide), up_ne (show 21 ≠ 17 by decide), k21, grd_true _ l1]
    rw [show up (up (up (rw w' m) 17 (J ((0 : Nat) : Int))) 18 (J (z' 2))) 19 (J (z' 3)) = Q8 from eQ8.symm]
  rcases hx with y | y
  · subst y
    have cq := gm_copies (S := T) (N := N) (v := wr w' m Q8) (a := m + 2) (b := m + 1) (i := 0) (j := 0) (cnt := 199) hN l2 l1 (by decide) (by decide) (by decide) (by decide) (Or.inr (Nat.le_refl _))
    refine ⟨wr (wr w' m Q8) (m + 1) (cpR (rw (wr w' m Q8) (m + 2)) (rw (wr w' m Q8) (m + 1)) 0 0 199), ?_, ⟨e2', fun y hy => by rw [rw_wr_ne (by omega)]; exact ow y (by omega) (by omega) (by omega)⟩, ⟨by rw [rw_wr_ne (by omega), rw_wr]; exact q29, by rw [rw_wr_ne (by omega)]; exact ow _ (by omega) (by omega) (by omega)⟩, ?_, ?_, ?_, ?_, ?_⟩
    · rw [head, if_pos rfl, show J 0 = J ((0 : Nat) : Int) from rfl, show J 199 = J ((199 : Nat) : Int) from rfl, cq]
      rfl
    · rw [rw_wr_ne (by omega), rw_wr, eQ8, up_ne (by decide), up_ne (by decide), up_same]
    · rw [rw_wr_ne (by omega), rw_wr, eQ8, up_ne (by decide), up_same]
    · rw [rw_wr_ne (by omega), rw_wr, eQ8, up_same]
    · rw [rw_wr_ne (by omega), rw_wr, q8 10 (by decide)]; exact w3m10
    · have rm : ∀ k, k < 10 → rw (wr (wr w' m Q8) (m + 1) (cpR (rw (wr w' m Q8) (m + 2)) (rw (wr w' m Q8) (m + 1)) 0 0 199)) m k = rw u m k := fun k hk => by
        rw [rw_wr_ne (by omega), rw_wr, q8 k (by omega), w3m k (by omega)]
      show dR T _ m now sv ps re ca ch
      refine ⟨hl, ?_, ?_, by rw [rm 5 (by decide)]; exact h5, fun i s his => by rw [rw_wr_ne (by omega), ow _ (by omega) (by omega) (by omega)]; exact h6 i s his, by rw [rm 7 (by decide)]; exact h7, by rw [rm 8 (by decide)]; exact h8, by rw [rm 9 (by decide)]; exact h9⟩
      · rw [rw_wr]
        exact rwM_ag h1 hs (fun k hk => by rw [cpR_lt hk, o2 k hk])
      · rcases hsv with ⟨y1, y2⟩ | ⟨s, y1, y2, y3⟩
        · exact Or.inl ⟨y1, by rw [rm 6 (by decide)]; exact y2⟩
        · exact Or.inr ⟨s, y1, by rw [rm 6 (by decide)]; exact y2, by rw [rw_wr_ne (by omega), ow _ (by omega) (by omega) (by omega)]; exact y3⟩
  · subst y
    have hr := f4 rfl
    have j19 : rw w' (m + 1) 19 = J (s'.2.2.1 8) := hr.1 19 (by decide)
    refine ⟨wr w' m (up (up Q8 5 (J 0)) 6 (J 0)), ?_, ⟨e2', fun y hy => by rw [rw_wr_ne (by omega), ← ow y (by omega) (by omega) (by omega), rw_wr_ne (by omega)]⟩, ⟨by rw [rw_wr, up_ne (by decide), up_ne (by decide)]; exact q29, by rw [rw_wr_ne (by omega), ← ow (m + 7) (by omega) (by omega) (by omega), rw_wr_ne (by omega)]⟩, ?_, ?_, ?_, ?_, ?_⟩
    · rw [head, if_neg n1]
      simp only [lt_def, si_wr, gi_x, rw_wr, wr_wr]
      rw [rw_wr_ne (show m + 1 ≠ m by omega), j19]
      rfl
    · rw [rw_wr, up_ne (by decide), up_ne (by decide), eQ8, up_ne (by decide), up_ne (by decide), up_same]
    · rw [rw_wr, up_ne (by decide), up_ne (by decide), eQ8, up_ne (by decide), up_same]
    · rw [rw_wr, up_ne (by decide), up_ne (by decide), eQ8, up_same]
    · rw [rw_wr, up_ne (by decide), up_ne (by decide), q8 10 (by decide)]; exact w3m10
    · show dR T _ m s' none [] re ca ch
      refine ⟨hl, by rw [rw_wr_ne (by omega)]; exact hr, Or.inl ⟨rfl, by rw [rw_wr, up_same]⟩, by rw [rw_wr, up_ne (by decide), up_same]; rfl, fun i s his => ?_, by rw [rw_wr, up_ne (by decide), up_ne (by decide), q8 7 (by decide), w3m 7 (by decide)]; exact h7, by rw [rw_wr, up_ne (by decide), up_ne (by decide), q8 8 (by decide), w3m 8 (by decide)]; exact h8, by rw [rw_wr, up_ne (by decide), up_ne (by decide), q8 9 (by decide), w3m 9 (by decide)]; exact h9⟩
      have his' : (none : Option sta) = some s := his
      cases his'
/-- loadCounter on both sides -/
theorem load_both (hN : 7000000 ≤ N) (ham : a + 84 ≤ m) (hw : wfS S) (hR : cR S v a now sv ps re ca ch q) (hd : dR S v m now sv ps re ca ch) (hT : tPs S v a) (hW : wdS S v a ln W) (hI : IR v a m) :
    ∃ x S' v' now' sv' ps', F_gc_loadCounter N a S v = some (J x, S', v') ∧ wfS S' ∧ exN a 0 0 S v S' v' ∧ cR S' v' a now' sv' ps' re ca ch q ∧ ∃ v'', F_gm_loadCounter N m S' v' = some (J x, v'') ∧ fri m 8 v' v'' ∧ dR S' v'' m now' sv' ps' re ca ch ∧ IR v'' a m ∧ rw v'' m 29 = rw v' m 29 ∧ rw v'' (m + 7) = rw v' (m + 7) := by
  obtain ⟨n, B, hC, hM, r1, r17, r18, r19⟩ := hI
  have n1 : ¬ J 1 = J 0 := by decide
  have n5 := hC.1
  have hL := hR.1
  have hl := hd.1
  have k0 := hL.1.1
  have g4 := hL.2.1.2.2.2
  have l3 := gcL_st hL (Or.inl rfl)
  obtain ⟨v5, c1, c2, c3⟩ := st_clear (v := v) l3
  obtain ⟨R7, e7⟩ : ∃ R7, R7 = up (up (up (up (up (up (rw v5 (a + 1)) 2 (J 0)) 3 (J (-1))) 5 (J 0)) 6 (J 0)) 7 (J 0)) 10 (J 0) := ⟨_, rfl⟩
  obtain ⟨z0, ez⟩ : ∃ z0, z0 = zi R7 := ⟨_, rfl⟩
  have z02 : z0 2 = 0 := by rw [ez, e7]; show (J 0).toInt = 0; decide
  have z03 : z0 3 = -1 := by rw [ez, e7]; show (J (-1)).toInt = -1; decide
  have z05 : z0 5 = 0 := by rw [ez, e7]; show (J 0).toInt = 0; decide
  have z06 : z0 6 = 0 := by rw [ez, e7]; show (J 0).toInt = 0; decide
  have z07 : z0 7 = 0 := by rw [ez, e7]; show (J 0).toInt = 0; decide
  have z010 : z0 10 = 0 := by rw [ez, e7]; show (J 0).toInt = 0; decide
  have hC0 : CS S (wr v5 (a + 1) R7) a n B ln W z0 := by
    refine ⟨⟨hC.1, hC.2.1, fun i hi => by rw [rw_wr_ne (by omega), c3.2 _ (by omega)]; exact hC.2.2 i hi⟩, wdS_eq hW (fun b hb => by rw [rw_wr_ne (by omega), c3.2 _ (by omega)]), ?_⟩
    rw [rw_wr]
    refine ⟨?_, fun k _ _ => by rw [ez]; exact (J_of _).symm⟩
    rw [e7, up_ne (by decide), up_ne (by decide), up_ne (by decide), up_ne (by decide), up_ne (by decide), up_ne (by decide), c3.2 _ (by omega)]
    exact r1
  obtain ⟨R8, d1, C8⟩ := tx_advS (N := N) (by omega) hL hC0 (by rw [z010]; omega)
  rw [wr_wr] at d1 C8
  have I8 := (adZ_I (z := z0) hC.2.1 z02 (by rw [z010]; omega) (by rw [z05, z06, z07]; decide)).1
  obtain ⟨x, z', s', v', e1, e2, e3, e4, e5, e6⟩ := jd_read (m := m) (N := N) (by omega) hL (by omega) C8 I8 (stD_lo c2 (by omega)) (tPs_wr (tPs_fri hT c3 (by omega)) (by omega))
  have cr : F_tx_read N (a + 1) S v = some (J x, v') := by
    unfold F_tx_read
    rw [grd_true _ hL.2.1.1, g4]
    simp only [Option.bind_some]
    rw [grd_true _ l3.1, c1]
    simp only [Option.bind_some, lt_def, si_wr, rw_wr, wr_wr]
    rw [← e7, d1]
    simp only [Option.bind_some]
    exact e1
  obtain ⟨w7, ew7⟩ : ∃ w7, w7 = wr v' (a + 1) (up (rw v' (a + 1)) 1 (J 0)) := ⟨_, rfl⟩
  have F7 : fri (a + 1) 8 v w7 := by
    rw [ew7]
    exact fri_tr (fri_tr (fri_tr (fri_mono c3 (by omega) (by omega)) (fri_wr (by omega))) e3) (fri_wr (by omega))
  have R7' := cR_in hR F7
  have a12 : rw w7 (a + 1) 2 = J (z' 2) := by rw [ew7, rw_wr, up_ne (by decide)]; exact e2.2.2.2 2 (by decide) (by decide)
  have a13 : rw w7 (a + 1) 3 = J (z' 3) := by rw [ew7, rw_wr, up_ne (by decide)]; exact e2.2.2.2 3 (by decide) (by decide)
  have a11 : rw w7 (a + 1) 1 = J 0 := by rw [ew7, rw_wr, up_same]
  have X7 : exL a 0 0 S v S w7 := exL_fri F7 (by omega)
  have X7N : exN a 0 0 S v S w7 := exN_fri F7 (by omega)
  have hz0 : z0 2 = 0 ∧ z0 3 = -1 ∧ z0 10 = 0 ∧ z0 5 = 0 ∧ z0 6 = 0 ∧ z0 7 = 0 := ⟨z02, z03, z010, z05, z06, z07⟩
  -- the relation of both texts, when all is read
  have ir : ∀ {y y' : vl}, fri m 8 y y' → rw y (a + 1) = rw w7 (a + 1) → rw y' m 17 = J 0 → rw y' m 18 = J (z' 2) → rw y' m 19 = J (z' 3) → IR y' a m := by
    intro y y' hf h1 h17 h18 h19
    have e : rw y' (a + 1) = rw w7 (a + 1) := (hf.2 _ (by omega)).trans h1
    exact ⟨0, B, ⟨by decide, fun j hj => absurd hj (by omega), fun j hj => absurd hj (by omega)⟩, ⟨by decide, fun j hj => absurd hj (by omega), fun j hj => absurd hj (by omega)⟩, by rw [e]; exact a11, h17, by rw [h18, e, a12], by rw [h19, e, a13]⟩
  rcases e4 with y | y
  · subst y
    obtain ⟨v'', m1, m2, mK, m3, m4, m5, -, m6⟩ := gm_loadS (T := S) (u := w7) (z' := z') (s' := s') (x := 0) (N := N) (by omega) hl ham (dR_exL hd hw ham X7) hR.2.1.2 ⟨n5, hC.2.1, fun i hi => by rw [F7.2 _ (by omega)]; exact hM.2.2 i hi⟩ (wdS_exL hW hw X7) (by rw [F7.2 _ (by omega)]; exact r17) hz0 (Or.inl rfl) (fun y => by omega) e6
    refine ⟨-1, S, w7, now, sv, ps, ?_, hw, X7N, R7', v'', m1, m2, m6, ir m2 rfl m3 m4 m5, mK⟩
    unfold F_gc_loadCounter
    rw [grd_true _ k0, hL.1.2.1]
    simp only [Option.bind_some]
    rw [grd_true _ hL.2.1.1, cr]
    simp only [Option.bind_some, lt_def, si_wr, if_true]
    rw [← ew7]
  · subst y
    obtain ⟨i1, -, i3, i4⟩ := e5 rfl
    obtain ⟨h, c, g, t, p, M⟩ := s'
    have iV : stV h c g t p M := i4.1
    have h50 : h 5 = 0 := i4.2.2.1
    have h8 := stV_8 iV
    have D7 : stM S w7 (a + 3) h c g t p := by rw [ew7]; exact stD_lo i3 (by omega)
    obtain ⟨S2, v2, f1, f2, f3, f4⟩ := st_copyFrom (M := M) (N := N) (by omega) hw (gcL_st hL (Or.inr (Or.inl rfl))) D7 (fun i hi => by omega) (Or.inr (by omega)) h8.2.2 iV.1.2.2.2.2
    obtain ⟨w2, R2⟩ := cR_put (now' := (h, c, g, t, p, M)) R7' hw f4 ⟨f2, f3⟩ iV
    obtain ⟨vF, eF⟩ : ∃ vF, vF = wr v2 a (up (up (rw v2 a) 12 (J 0)) 9 (J 0)) := ⟨_, rfl⟩
    have k02 := R2.1.1.1
    have X2N : exN a 0 0 S v S2 vF := by
      rw [eF]
      exact exN_tr (exN_tr X7N (exN_exi f4 (by omega))) (exN_fri (fri_wr (b := a) (n := 1) (by omega)) (by omega))
    have X2 : exL a 0 0 S v S2 vF := exN_L X2N
    have RF : cR S2 vF a (h, c, g, t, p, M) none [] re ca ch q := by
      obtain ⟨hL2, ⟨y1, y2⟩, -, ⟨n', p1, p2, p3, p4, p5, p6⟩, r2, r3, r4⟩ := R2
      rw [eF]
      refine ⟨hL2, ⟨stA_wra y1 k02 (by omega), y2⟩, Or.inl ⟨rfl, by rw [rw_wr, up_same]⟩, ⟨n', by rw [rw_wr, up_ne (by decide), up_ne (by decide)]; exact p1, Nat.zero_le _, p3, by rw [rw_wr, up_ne (by decide), up_same]; rfl, Nat.zero_le _, fun i s his => ?_⟩, by rw [rw_wr, up_ne (by decide), up_ne (by decide)]; exact r2, by rw [rw_wr, up_ne (by decide), up_ne (by decide)]; exact r3, by rw [rw_wr, up_ne (by decide), up_ne (by decide)]; exact r4⟩
      have his' : (none : Option sta) = some s := his
      cases his'
    obtain ⟨q0, q5, qn, -, -, q7, qg, -, -, qq⟩ := cR_now R2
    have rm : ∀ y, m ≤ y ∧ y < m + 8 → rw vF y = rw v y := fun y hy => mrow_exL hl hw ham X2 hy
    have ra : rw vF (a + 1) = rw w7 (a + 1) := by
      rw [eF, rw_wr_ne (by omega)]
      exact exi_rw f4 hw hL.2.1.1 (by omega)
    obtain ⟨v'', m1, m2, mK, m3, m4, m5, -, m6⟩ := gm_loadS (T := S2) (u := vF) (z' := z') (s' := (h, c, g, t, p, M)) (x := 1) (N := N) (by omega) (mdL_exL hl hw ham X2) ham (dR_exL hd hw ham X2) hR.2.1.2 ⟨n5, hC.2.1, fun i hi => by rw [rm _ (by omega)]; exact hM.2.2 i hi⟩ (wdS_exL hW hw X2) (by rw [rm _ (by omega)]; exact r17) hz0 (Or.inr rfl) (fun _ => iV) e6
    refine ⟨g 8, S2, vF, (h, c, g, t, p, M), none, [], ?_, w2, X2N, RF, v'', m1, m2, m6, ir m2 ra m3 m4 m5, mK⟩
    have j8 : gi vF (a + 11 + 2) 8 = J (g 8) := by rw [gi_rw, eF, rw_wr_ne (by omega)]; exact qq 8 (by decide)
    unfold F_gc_loadCounter
    rw [grd_true _ k0, hL.1.2.1]
    simp only [Option.bind_some]
    rw [grd_true _ hL.2.1.1, cr]
    simp only [Option.bind_some, lt_def, si_wr]
    rw [if_neg n1, hL.1.2.2.2.1]
    simp only [Option.bind_some]
    rw [g4]
    simp only [Option.bind_some]
    rw [grd_true _ (gcL_st hL (Or.inr (Or.inl rfl))).1, ← ew7, f1]
    simp only [Option.bind_some, rw_wr, wr_wr]
    rw [← eF, q5]
    simp only [Option.bind_some]
    rw [grd_true _ qn, q7]
    simp only [Option.bind_some]
    rw [grd_true _ qg, j8]
end LOADC
