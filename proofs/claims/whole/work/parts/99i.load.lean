/-! The text that is read: all of it. -/
section LOADS
variable {S : shp} {v w : vl} {a m N n : Nat} {B : Nat → Int} {z : Nat → Int} {R0 R Q : Nat → Int32} {ln : Nat → Nat} {W : Nat → Nat → Int} {s : sta}
theorem jd_stmt (hN : 1000 ≤ N) (hL : gcL S a) (ham : a ≤ m) (hC : CS S v a n B ln W z) (hz : zI n z) (h8 : z 8 ≠ 0) (hD : stD S v (a + 3) s) (hs : dV s) (hT : tPs S v a) :
    JD S a m n B ln W v z s (F_tx_readStatement N (a + 1) S v) (fun T w => (F_gm_readStatement N m T w).bind fun (x7, w8) => if x7 = J 0 then some (J 0, w8) else F_gm_readEnd N m T w8) (fun z' => z 9 < z' 9) := by
  have n1 : ¬ J 1 = J 0 := by decide
  have hB := hC.1.2.1
  have w13 := tx_word (N := N) (j := 13) hN hL hC hz (by decide)
  have w14 := tx_word (N := N) (j := 14) hN hL hC hz (by decide)
  have w15 := tx_word (N := N) (j := 15) hN hL hC hz (by decide)
  have w16 := tx_word (N := N) (j := 16) hN hL hC hz (by decide)
  have m13 := fun {T : shp} {R0 : Nat → Int32} {w : vl} (hl : mdL T m) (hw : MS T w a m n B ln W R0 z) => gm_word (N := N) (j := 13) hN hl hw hz (by decide)
  have m14 := fun {T : shp} {R0 : Nat → Int32} {w : vl} (hl : mdL T m) (hw : MS T w a m n B ln W R0 z) => gm_word (N := N) (j := 14) hN hl hw hz (by decide)
  have m15 := fun {T : shp} {R0 : Nat → Int32} {w : vl} (hl : mdL T m) (hw : MS T w a m n B ln W R0 z) => gm_word (N := N) (j := 15) hN hl hw hz (by decide)
  have m16 := fun {T : shp} {R0 : Nat → Int32} {w : vl} (hl : mdL T m) (hw : MS T w a m n B ln W R0 z) => gm_word (N := N) (j := 16) hN hl hw hz (by decide)
  have b13 := (wdZ_B (B := B) (z := z) (len := ln 13) (X := W 13)).1
  have b14 := (wdZ_B (B := B) (z := z) (len := ln 14) (X := W 14)).1
  have b15 := (wdZ_B (B := B) (z := z) (len := ln 15) (X := W 15)).1
  have b16 := (wdZ_B (B := B) (z := z) (len := ln 16) (X := W 16)).1
  have hP : ∀ z', zI n z' → z 9 < z' 9 → z' 8 ≠ 0 → z 9 < adZ B n z' 9 := fun z' i1 i2 i3 => Int.lt_trans i2 (ad_I hB i1 i3).2.2
  have gr0 : ∀ {F : Option (Int32 × vl)} {x : Int} {w' : vl}, (x = 0 ∨ x = 1) → F = some (J x, w') → (F.bind fun (x9, w10) => grd (narrow .boolean (.int x9) = .int x9) <| some ((x9, w10))) = some (J x, w') := by
    intro F x w' hx e
    rw [e]
    simp only [Option.bind_some]
    rw [grd_true _ (by rcases hx with y | y <;> rw [y] <;> decide)]
  rcases b13 with o13 | o13
  · rcases b14 with o14 | o14
    · rcases b15 with o15 | o15
      · rcases b16 with o16 | o16
        · obtain ⟨R1, a1, C1⟩ := tx_failS (x := 1) hL hC
          refine ⟨0, flZ 1 z, s, _, ?_, C1, fri_wr (by omega), Or.inl rfl, fun y => by omega, fun T R0 w hl hw hr => ?_⟩
          · unfold F_tx_readStatement
            rw [grd_true _ hL.2.1.1, w13, o13]
            simp only [Option.bind_some, if_true]
            rw [w14, o14]
            simp only [Option.bind_some, if_true]
            rw [w15, o15]
            simp only [Option.bind_some, if_true]
            rw [w16, o16]
            simp only [Option.bind_some, if_true]
            rw [a1]
            simp only [Option.bind_some]
            rw [grd_true _ (by decide)]
          · obtain ⟨Q1, k1, k2⟩ := gm_failS (x := 1) hl ham hw hz.1
            refine ⟨_, ?_, k2, fri_wr (by omega), fun y => by omega⟩
            show (F_gm_readStatement N m T w).bind _ = _
            unfold F_gm_readStatement
            rw [grd_true _ hl.1, m13 hl hw, o13]
            simp only [Option.bind_some, if_true]
            rw [m14 hl hw, o14]
            simp only [Option.bind_some, if_true]
            rw [m15 hl hw, o15]
            simp only [Option.bind_some, if_true]
            rw [m16 hl hw, o16]
            simp only [Option.bind_some, if_true]
            rw [k1]
            simp only [Option.bind_some]
            rw [grd_true _ (by decide)]
            rfl
        · have H := jd_sig (N := N) hN hL ham hC hz h8 hD hs
          have H2 := jd_mono (mF2 := fun T w => F_gm_readStatement N m T w) H (fun _ _ _ e => e) (fun T R0 w x w' hx hl hw e => by
            show F_gm_readStatement N m T w = _
            unfold F_gm_readStatement
            rw [grd_true _ hl.1, m13 hl hw, o13]
            simp only [Option.bind_some, if_true]
            rw [m14 hl hw, o14]
            simp only [Option.bind_some, if_true]
            rw [m15 hl hw, o15]
            simp only [Option.bind_some, if_true]
            rw [m16 hl hw, o16]
            simp only [Option.bind_some]
            rw [if_neg n1]
            exact gr0 hx e) (fun _ y => y)
          refine jd_mono (jd_semi hN hL ham hP hB H2) (fun x v' _ e => ?_) (fun _ _ _ _ _ _ _ _ e => e) (fun _ y => y)
          unfold F_tx_readStatement
          rw [grd_true _ hL.2.1.1, w13, o13]
          simp only [Option.bind_some, if_true]
          rw [w14, o14]
          simp only [Option.bind_some, if_true]
          rw [w15, o15]
          simp only [Option.bind_some, if_true]
          rw [w16, o16]
          simp only [Option.bind_some]
          rw [if_neg n1]
          exact e
      · have H := jd_per (N := N) hN hL ham hC hz h8 hD hs
        have H2 := jd_mono (mF2 := fun T w => F_gm_readStatement N m T w) H (fun _ _ _ e => e) (fun T R0 w x w' hx hl hw e => by
          show F_gm_readStatement N m T w = _
          unfold F_gm_readStatement
          rw [grd_true _ hl.1, m13 hl hw, o13]
          simp only [Option.bind_some, if_true]
          rw [m14 hl hw, o14]
          simp only [Option.bind_some, if_true]
          rw [m15 hl hw, o15]
          simp only [Option.bind_some]
          rw [if_neg n1]
          exact gr0 hx e) (fun _ y => y)
        refine jd_mono (jd_semi hN hL ham hP hB H2) (fun x v' _ e => ?_) (fun _ _ _ _ _ _ _ _ e => e) (fun _ y => y)
        unfold F_tx_readStatement
        rw [grd_true _ hL.2.1.1, w13, o13]
        simp only [Option.bind_some, if_true]
        rw [w14, o14]
        simp only [Option.bind_some, if_true]
        rw [w15, o15]
        simp only [Option.bind_some]
        rw [if_neg n1]
        exact e
    · have H := jd_gate (N := N) hN hL ham hC hz h8 hD hs
      have H2 := jd_mono (mF2 := fun T w => F_gm_readStatement N m T w) H (fun _ _ _ e => e) (fun T R0 w x w' hx hl hw e => by
        show F_gm_readStatement N m T w = _
        unfold F_gm_readStatement
        rw [grd_true _ hl.1, m13 hl hw, o13]
        simp only [Option.bind_some, if_true]
        rw [m14 hl hw, o14]
        simp only [Option.bind_some]
        rw [if_neg n1]
        exact gr0 hx e) (fun _ y => y)
      refine jd_mono (jd_semi hN hL ham hP hB H2) (fun x v' _ e => ?_) (fun _ _ _ _ _ _ _ _ e => e) (fun _ y => y)
      unfold F_tx_readStatement
      rw [grd_true _ hL.2.1.1, w13, o13]
      simp only [Option.bind_some, if_true]
      rw [w14, o14]
      simp only [Option.bind_some]
      rw [if_neg n1]
      exact e
  · have H := jd_pres (N := N) hN hL ham hC hz h8 hD hs hT
    have H2 := jd_mono (mF2 := fun T w => F_gm_readStatement N m T w) H (fun _ _ _ e => e) (fun T R0 w x w' hx hl hw e => by
      show F_gm_readStatement N m T w = _
      unfold F_gm_readStatement
      rw [grd_true _ hl.1, m13 hl hw, o13]
      simp only [Option.bind_some]
      rw [if_neg n1]
      exact gr0 hx e) (fun _ y => y)
    refine jd_mono (jd_semi hN hL ham hP hB H2) (fun x v' _ e => ?_) (fun _ _ _ _ _ _ _ _ e => e) (fun _ y => y)
    unfold F_tx_readStatement
    rw [grd_true _ hL.2.1.1, w13, o13]
    simp only [Option.bind_some]
    rw [if_neg n1]
    exact e
theorem bind_two {A : Option (Int32 × vl)} {E K : vl → Option (Int32 × vl)} : (A.bind fun (x2, w3) => (if x2 = J 0 then some (J 0, w3) else (E w3).bind fun (x4, w5) => (if x4 = J 0 then some (J 0, w5) else K w5))) = (A.bind fun (x2, w3) => if x2 = J 0 then some (J 0, w3) else E w3).bind fun (x, w5) => if x = J 0 then some (J 0, w5) else K w5 := by
  cases A with
  | none => rfl
  | some y =>
    obtain ⟨x2, w3⟩ := y
    simp only [Option.bind_some]
    by_cases h : x2 = J 0
    · rw [if_pos h, if_pos h]
      rfl
    · rw [if_neg h, if_neg h]
theorem tPs_fri {v' : vl} {b k : Nat} (hT : tPs S v a) (hf : fri b k v v') (hb : a ≤ b ∧ b + k ≤ a + 84) : tPs S v' a := by
  obtain ⟨t1, t2, t3⟩ := hT
  exact ⟨t1, t2, fun i hi => by rw [hf.2 _ (by omega)]; exact t3 i hi⟩
/-- the class stops behind a fault -/
theorem tx_stop {F q : Nat} {x : Int} (hL : gcL S a) (hx : x = 0) : K_tx_read_65 N (F + 1) S v (a + 1) (J x) (J (q : Int)) = some (J 0, v) := by
  subst hx
  show Y_tx_read_65 N (K_tx_read_65 N F S) S v (a + 1) (J 0) (J (q : Int)) = _
  unfold Y_tx_read_65
  rw [grd_true _ hL.2.1.1, if_pos rfl, grd_true _ (by decide)]
  split <;> rfl
theorem jd_loop (hN : 1000 ≤ N) (hL : gcL S a) (ham : a ≤ m) : ∀ (d F G q : Nat) (v : vl) (z : Nat → Int) (s : sta), (n : Int) + 1 ≤ z 9 + d → d < F → d < G → (q : Int) ≤ z 9 → CS S v a n B ln W z → zI n z → stD S v (a + 3) s → dV s → tPs S v a →
    JD S a m n B ln W v z s (K_tx_read_65 N F S v (a + 1) (J 1) (J (q : Int))) (fun T w => K_gm_readText_16 N G T w m) (fun _ => True)
  | 0, _, _, _, _, _, _, h, _, _, _, _, hz, _, _, _ => by
    have := hz.2.1
    omega
  | _ + 1, 0, _, _, _, _, _, _, h, _, _, _, _, _, _, _ => absurd h (Nat.not_lt_zero _)
  | _ + 1, _ + 1, 0, _, _, _, _, _, _, h, _, _, _, _, _, _ => absurd h (Nat.not_lt_zero _)
  | d + 1, F + 1, G + 1, q, v, z, s, hd, hF, hG, hq, hC, hz, hD, hs, hT => by
    have n1 : ¬ J 1 = J 0 := by decide
    have n5 := hC.1.1
    have z9 := hz.2.1
    have z8 := hz.2.2.1
    have r1 : gi v (a + 1) 1 = J (n : Int) := by rw [gi_rw]; exact hC.2.2.1
    have r8 : gi v (a + 1) 8 = J (z 8) := by rw [gi_rw]; exact hC.2.2.2 8 (by decide) (by decide)
    have e8 : (J (z 8) = J 0) ↔ z 8 = 0 := J_eq (by omega) (by decide)
    have e0 := fun {T : shp} {R0 : Nat → Int32} {w : vl} (hl : mdL T m) (hw : MS T w a m n B ln W R0 z) => m25 (κ := 0) hw.2.2 z8 (by decide)
    have mstep : ∀ (T : shp) (w : vl), mdL T m → K_gm_readText_16 N (G + 1) T w m = if gi w m 25 = J 0 then some (J 1, w) else ((F_gm_readStatement N m T w).bind fun (x7, w8) => if x7 = J 0 then some (J 0, w8) else F_gm_readEnd N m T w8).bind fun (x, w10) => if x = J 0 then some (J 0, w10) else K_gm_readText_16 N G T w10 m := by
      intro T w hl
      show Y_gm_readText_16 N (K_gm_readText_16 N G T) T w m = _
      unfold Y_gm_readText_16
      rw [grd_true _ hl.1]
      by_cases q : gi w m 25 = J 0
      · rw [if_pos q, if_pos q]
      · rw [if_neg q, if_neg q]
        exact bind_two (A := F_gm_readStatement N m T w) (E := fun w8 => F_gm_readEnd N m T w8) (K := fun w10 => K_gm_readText_16 N G T w10 m)
    by_cases o : z 8 = 0
    · refine ⟨1, z, s, v, ?_, hC, fri_refl _ _ _, Or.inr rfl, fun _ => ⟨hz, trivial, hD, hs⟩, fun T R0 w hl hw hr => ⟨w, ?_, hw, fri_refl _ _ _, fun _ => hr⟩⟩
      · show Y_tx_read_65 N (K_tx_read_65 N F S) S v (a + 1) (J 1) (J (q : Int)) = _
        unfold Y_tx_read_65
        rw [grd_true _ hL.2.1.1, if_neg n1, r8, if_pos (e8.mpr o), grd_true _ (by decide)]
        split <;> rfl
      · show K_gm_readText_16 N (G + 1) T w m = _
        rw [mstep T w hl, if_pos (by rw [gi_rw]; exact (e0 hl hw).mpr o)]
    · obtain ⟨x, z', s', v', e1, e2, e3, e4, e5, e6⟩ := jd_stmt (N := N) hN hL ham hC hz o hD hs hT
      have z09 := hz.2.2.2.2.2 o
      have cl : K_tx_read_65 N (F + 1) S v (a + 1) (J 1) (J (q : Int)) = K_tx_read_65 N F S v' (a + 1) (J x) (J ((q + 1 : Nat) : Int)) := by
        show Y_tx_read_65 N (K_tx_read_65 N F S) S v (a + 1) (J 1) (J (q : Int)) = _
        unfold Y_tx_read_65
        rw [grd_true _ hL.2.1.1, r1, if_pos ((J_lt (by omega) (by omega)).mpr (by omega)), if_neg n1, r8, if_neg (fun y => o (e8.mp y)), e1]
        simp only [Option.bind_some]
        rw [J_s]
      have md : ∀ (T : shp) (R0 : Nat → Int32) (w : vl), mdL T m → MS T w a m n B ln W R0 z → rwM (rw w (m + 1)) s → ∃ w1, MS T w1 a m n B ln W R0 z' ∧ fri m 2 w w1 ∧ (x = 1 → rwM (rw w1 (m + 1)) s') ∧ K_gm_readText_16 N (G + 1) T w m = if J x = J 0 then some (J 0, w1) else K_gm_readText_16 N G T w1 m := by
        intro T R0 w hl hw hr
        obtain ⟨w1, f1, f2, f3, f4⟩ := e6 T R0 w hl hw hr
        try dsimp only at f1
        have f1' : ((F_gm_readStatement N m T w).bind fun (x7, w8) => if x7 = J 0 then some (J 0, w8) else F_gm_readEnd N m T w8) = some (J x, w1) := f1
        refine ⟨w1, f2, f3, f4, ?_⟩
        rw [mstep T w hl, if_neg (by rw [gi_rw]; exact fun y => o ((e0 hl hw).mp y)), f1']
        rfl
      rcases e4 with y | y
      · subst y
        obtain ⟨F', eF⟩ : ∃ F', F = F' + 1 := ⟨F - 1, by omega⟩
        refine ⟨0, z', s', v', by rw [cl, eF]; exact tx_stop hL rfl, e2, e3, Or.inl rfl, fun y => by omega, fun T R0 w hl hw hr => ?_⟩
        obtain ⟨w1, f1, f2, f3, f4⟩ := md T R0 w hl hw hr
        try dsimp only at f1
        exact ⟨w1, by show K_gm_readText_16 N (G + 1) T w m = _; rw [f4, if_pos rfl], f1, f2, fun y => by omega⟩
      · subst y
        obtain ⟨i1, i2, i3, i4⟩ := e5 rfl
        obtain ⟨x, z2, s2, v2, g1, g2, g3, g4, g5, g6⟩ := jd_loop hN hL ham d F G (q + 1) v' z' s' (by omega) (by omega) (by omega) (by omega) e2 i1 i3 i4 (tPs_fri hT e3 (by omega))
        refine ⟨x, z2, s2, v2, by rw [cl]; exact g1, g2, fri_tr e3 g3, g4, g5, fun T R0 w hl hw hr => ?_⟩
        obtain ⟨w1, f1, f2, f3, f4⟩ := md T R0 w hl hw hr
        try dsimp only at f1
        obtain ⟨w', k1, k2, k3, k4⟩ := g6 T R0 w1 hl f1 (f3 rfl)
        try dsimp only at k1
        exact ⟨w', by show K_gm_readText_16 N (G + 1) T w m = _; rw [f4, if_neg n1]; exact k1, k2, fri_tr f2 k3, k4⟩
end LOADS
