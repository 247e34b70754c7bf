/-! What is printed: all else stays. -/
section KEEP
variable {S S' : shp} {v w v' : vl} {a b m N n q l r len r' len' : Nat} {ln : Nat → Nat} {W : Nat → Nat → Int} {s now : sta} {sv : Option sta} {ps : List sta} {re ca ch : Int}
/-- the array of letters is nobody else's -/
def rOut (S : shp) (a m r len : Nat) : Prop := kin S r = some (2, len) ∧ (r = a + 10 ∨ m + 8 ≤ r)
theorem exP_kin {d : kd} {x : Nat} (hw : wfS S) (h : exP b r len S v S' v' r' len') (hx : kin S x = some d) : kin S' x = some d := by
  rw [h.2.2.2.1 x (kin_lt hw hx)]
  exact hx
theorem exP_gr {d : kd} {x j : Nat} (hw : wfS S) (h : exP b r len S v S' v' r' len') (hx : kin S x = some d) (hj : x ≠ b ∨ j ≠ 0) : gr S' x j = gr S x j := h.2.2.1 x (kin_lt hw hx) j hj
theorem exP_rw {d : kd} {x : Nat} (hw : wfS S) (h : exP b r len S v S' v' r' len') (hx : kin S x = some d) (h1 : x ≠ b) (h2 : x ≠ r) : rw v' x = rw v x := h.2.1 x (kin_lt hw hx) h1 h2
theorem stL_exP {x : Nat} (hl : stL S x) (hw : wfS S) (h : exP b r len S v S' v' r' len') (hb : b < x ∨ x + 6 ≤ b) : stL S' x := by
  obtain ⟨k0, g6, k1, g7, ⟨k2, k3, k4, g10, g11⟩, g8, k5⟩ := hl
  have kk : ∀ {d : kd} {y : Nat}, kin S y = some d → kin S' y = some d := fun hy => exP_kin hw h hy
  exact ⟨kk k0, by rw [exP_gr hw h k0 (by omega)]; exact g6, kk k1, by rw [exP_gr hw h k0 (by omega)]; exact g7, ⟨kk k2, kk k3, kk k4, by rw [exP_gr hw h k2 (by omega)]; exact g10, by rw [exP_gr hw h k2 (by omega)]; exact g11⟩, by rw [exP_gr hw h k0 (by omega)]; exact g8, kk k5⟩
theorem stA_exP {x : Nat} (hA : stA S v x s) (hw : wfS S) (h : exP b r len S v S' v' r' len') (hb : b < x ∨ x + 6 ≤ b) (hr : r < x ∨ x + 6 ≤ r) (kb : kin S b = some (0, 7)) (kr : kin S r = some (2, len)) : stA S' v' x s := by
  obtain ⟨⟨l, hh, hc, ⟨l2, hg, ht⟩⟩, hm⟩ := hA
  obtain ⟨k0, g6, k1, g7, ⟨k2, k3, k4, g10, g11⟩, g8, k5⟩ := id l
  have hl' := stL_exP l hw h hb
  refine ⟨⟨hl', by rw [exP_rw hw h k0 (by omega) (by omega)]; exact hh, by rw [exP_rw hw h k1 (by omega) (by omega)]; exact hc, hl'.2.2.2.2.1, by rw [exP_rw hw h k2 (by omega) (by omega)]; exact hg, fun i hi => by rw [exP_rw hw h k3 (by omega) (by omega), exP_rw hw h k4 (by omega) (by omega)]; exact ht i hi⟩, fun i hi => ?_⟩
  obtain ⟨y, r1, r2, r3⟩ := hm i hi
  refine ⟨y, by rw [exP_gr hw h k5 (by omega)]; exact r1, exP_kin hw h r2, ?_⟩
  rw [exP_rw hw h r2 (fun e => by rw [e, kb] at r2; cases r2) (fun e => by rw [e, kr] at r2; cases r2)]
  exact r3
theorem gcL_exP (hL : gcL S a) (hw : wfS S) (h : exP (a + 9) r len S v S' v' r' len') : gcL S' a := by
  obtain ⟨⟨k0, g0, g1, g5, g6, g7, g8, g10⟩, ⟨k1, h0, k2, h4⟩, k9, k35, g35, s3, s11, s17, s23, s29, s36⟩ := hL
  have kk : ∀ {d : kd} {y : Nat}, kin S y = some d → kin S' y = some d := fun hy => exP_kin hw h hy
  have ga : ∀ j, gr S' a j = gr S a j := fun j => exP_gr hw h k0 (by omega)
  exact ⟨⟨kk k0, by rw [ga]; exact g0, by rw [ga]; exact g1, by rw [ga]; exact g5, by rw [ga]; exact g6, by rw [ga]; exact g7, by rw [ga]; exact g8, by rw [ga]; exact g10⟩, ⟨kk k1, by rw [exP_gr hw h k1 (by omega)]; exact h0, kk k2, by rw [exP_gr hw h k1 (by omega)]; exact h4⟩, kk k9, kk k35, fun i hi => by rw [exP_gr hw h k35 (by omega)]; exact g35 i hi, stL_exP s3 hw h (by omega), stL_exP s11 hw h (by omega), stL_exP s17 hw h (by omega), stL_exP s23 hw h (by omega), stL_exP s29 hw h (by omega), fun i hi => stL_exP (s36 i hi) hw h (by omega)⟩
theorem cR_exP (hR : cR S v a now sv ps re ca ch q) (hw : wfS S) (ham : a + 84 ≤ m) (ho : rOut S a m r len) (h : exP (a + 9) r len S v S' v' r' len') : cR S' v' a now sv ps re ca ch q := by
  obtain ⟨kr, hr⟩ := ho
  obtain ⟨hL, ⟨n1, n2⟩, hsv, ⟨n, p1, p2, p3, p4, p5, p6⟩, r2, r3, r4⟩ := hR
  have k0 := hL.1.1
  have k9 := hL.2.2.1
  have e0 : rw v' a = rw v a := exP_rw hw h k0 (by omega) (by omega)
  refine ⟨gcL_exP hL hw h, ⟨stA_exP n1 hw h (by omega) (by omega) k9 kr, n2⟩, ?_, ⟨n, by rw [e0]; exact p1, p2, p3, by rw [e0]; exact p4, p5, fun i s his => ?_⟩, by rw [e0]; exact r2, by rw [e0]; exact r3, by rw [e0]; exact r4⟩
  · rcases hsv with ⟨z1, z2⟩ | ⟨s, z1, z2, z3, z4⟩
    · exact Or.inl ⟨z1, by rw [e0]; exact z2⟩
    · exact Or.inr ⟨s, z1, by rw [e0]; exact z2, stA_exP z3 hw h (by omega) (by omega) k9 kr, z4⟩
  · obtain ⟨y1, y2⟩ := p6 i s his
    have : (n - 1 - i) % 8 < 8 := Nat.mod_lt _ (by decide)
    exact ⟨y1, stA_exP y2 hw h (by omega) (by omega) k9 kr⟩
theorem mrow_exP {x : Nat} (hm : mdL S m) (hw : wfS S) (ham : a + 84 ≤ m) (ho : rOut S a m r len) (h : exP (a + 9) r len S v S' v' r' len') (hx : m ≤ x ∧ x < m + 8) : rw v' x = rw v x := by
  obtain ⟨m0, g0, m1, ⟨g1, m2⟩, ⟨g2, m3⟩, ⟨g3, m4⟩, ⟨g4, m5⟩, ⟨g16, m6⟩, ⟨g28, m7⟩⟩ := hm
  have q7 := kin_lt hw m7
  have := ho.2
  exact h.2.1 x (by omega) (by omega) (by omega)
theorem mdL_exP (hm : mdL S m) (hw : wfS S) (ham : a + 84 ≤ m) (h : exP (a + 9) r len S v S' v' r' len') : mdL S' m := by
  have kk : ∀ {d : kd} {y : Nat}, kin S y = some d → kin S' y = some d := fun hy => exP_kin hw h hy
  obtain ⟨m0, g0, m1, ⟨g1, m2⟩, ⟨g2, m3⟩, ⟨g3, m4⟩, ⟨g4, m5⟩, ⟨g16, m6⟩, ⟨g28, m7⟩⟩ := hm
  have gg : ∀ j, gr S' m j = gr S m j := fun j => exP_gr hw h m0 (by omega)
  exact ⟨kk m0, by rw [gg]; exact g0, kk m1, ⟨by rw [gg]; exact g1, kk m2⟩, ⟨by rw [gg]; exact g2, kk m3⟩, ⟨by rw [gg]; exact g3, kk m4⟩, ⟨by rw [gg]; exact g4, kk m5⟩, ⟨by rw [gg]; exact g16, kk m6⟩, ⟨by rw [gg]; exact g28, kk m7⟩⟩
/-- the model's relation, in rows that stay -/
theorem dR_rows (hR : dR S v m now sv ps re ca ch) (hl : mdL S' m) (h1 : rw v' (m + 1) = rw v (m + 1)) (h4 : rw v' (m + 4) = rw v (m + 4)) (h5 : rw v' (m + 5) = rw v (m + 5)) (hm : ∀ k, 5 ≤ k → k < 10 → rw v' m k = rw v m k) : dR S' v' m now sv ps re ca ch := by
  obtain ⟨-, g1, hsv, g5, g6, g7, g8, g9⟩ := hR
  refine ⟨hl, by rw [h1]; exact g1, ?_, by rw [hm 5 (by decide) (by decide)]; exact g5, fun i s his => by rw [h5]; exact g6 i s his, by rw [hm 7 (by decide) (by decide)]; exact g7, by rw [hm 8 (by decide) (by decide)]; exact g8, by rw [hm 9 (by decide) (by decide)]; exact g9⟩
  rcases hsv with ⟨z1, z2⟩ | ⟨s, z1, z2, z3⟩
  · exact Or.inl ⟨z1, by rw [hm 6 (by decide) (by decide)]; exact z2⟩
  · exact Or.inr ⟨s, z1, by rw [hm 6 (by decide) (by decide)]; exact z2, by rw [h4]; exact z3⟩
theorem dR_exP (hR : dR S v m now sv ps re ca ch) (hw : wfS S) (ham : a + 84 ≤ m) (ho : rOut S a m r len) (h : exP (a + 9) r len S v S' v' r' len') : dR S' v' m now sv ps re ca ch := by
  have rr := fun x (hx : m ≤ x ∧ x < m + 8) => mrow_exP hR.1 hw ham ho h hx
  exact dR_rows hR (mdL_exP hR.1 hw ham h) (rr _ (by omega)) (rr _ (by omega)) (rr _ (by omega)) (fun k _ _ => by rw [rr m (by omega)])
theorem tPs_exP (hT : tPs S v a) (hw : wfS S) (kb : kin S (a + 9) = some (0, 7)) (kr : kin S r = some (2, len)) (h : exP (a + 9) r len S v S' v' r' len') : tPs S' v' a := by
  obtain ⟨t1, t2, t3⟩ := hT
  have x4 := h.2.2.2.2.1
  refine ⟨by rw [x4]; exact exP_kin hw h t1, by rw [x4]; exact t2, fun i hi => ?_⟩
  rw [x4, exP_rw hw h t1 (fun e => by rw [e, kb] at t1; cases t1) (fun e => by rw [e, kr] at t1; cases t1)]
  exact t3 i hi
theorem wdS_exP (hW : wdS S v a ln W) (hw : wfS S) (ham : a + 84 ≤ m) (ho : rOut S a m r len) (h : exP (a + 9) r len S v S' v' r' len') : wdS S' v' a ln W := by
  intro j h10 h16
  have hr := ho.2
  obtain ⟨h1, h2, h3, h4, y, g1, g2, g3, g4⟩ := hW j h10 h16
  have x4 := h.2.2.2.2.1
  refine ⟨by rw [x4]; exact exP_kin hw h h1, by rw [x4]; exact h2, by rw [x4, exP_rw hw h h1 (by omega) (by omega)]; exact h3, h4, y, by rw [x4, exP_gr hw h h1 (by omega)]; exact g1, g2, exP_kin hw h g3, fun k hk => ?_⟩
  rw [exP_rw hw h g3 (by omega) (by omega)]
  exact g4 k hk
theorem dtT_exP (hT : dtT S v a) (hw : wfS S) (ham : a + 84 ≤ m) (ho : rOut S a m r len) (h : exP (a + 9) r len S v S' v' r' len') : dtT S' v' a := by
  obtain ⟨t1, t2, t3, t5⟩ := hT
  have hr := ho.2
  have x4 := h.2.2.2.2.1
  refine ⟨by rw [x4]; exact exP_kin hw h t1, by rw [x4]; exact exP_kin hw h t2, by rw [x4]; exact t3, fun q hq => ?_⟩
  rw [x4, exP_rw hw h t2 (by omega) (by omega), exP_rw hw h t1 (by omega) (by omega)]
  exact t5 q hq
theorem IR_rows (hI : IR v a m) (h1 : rw v' (a + 1) = rw v (a + 1)) (h2 : rw v' (a + 2) = rw v (a + 2)) (h6 : rw v' (m + 6) = rw v (m + 6)) (hm : ∀ k, 17 ≤ k → k < 20 → rw v' m k = rw v m k) : IR v' a m := by
  obtain ⟨n, B, hC, hM, r1, r17, r18, r19⟩ := hI
  exact ⟨n, B, CB_eq hC h2, MBy_eq hM h6, by rw [h1]; exact r1, by rw [hm 17 (by decide) (by decide)]; exact r17, by rw [hm 18 (by decide) (by decide), h1]; exact r18, by rw [hm 19 (by decide) (by decide), h1]; exact r19⟩
theorem IR_exP (hI : IR v a m) (hL : gcL S a) (hm : mdL S m) (hw : wfS S) (ham : a + 84 ≤ m) (ho : rOut S a m r len) (h : exP (a + 9) r len S v S' v' r' len') : IR v' a m := by
  have hr := ho.2
  have rr := fun x (hx : m ≤ x ∧ x < m + 8) => mrow_exP hm hw ham ho h hx
  exact IR_rows hI (exP_rw hw h hL.2.1.1 (by omega) (by omega)) (exP_rw hw h hL.2.1.2.2.1 (by omega) (by omega)) (rr _ (by omega)) (fun k _ _ => by rw [rr m (by omega)])
/-- the array of letters behind -/
theorem rOut_exP {l : Nat} {O : Nat → Int} (hw : wfS S) (hm : mdL S m) (ho : rOut S a m r len) (h : exP (a + 9) r len S v S' v' r' len') (hO : OC S' v' (a + 9) l O r' len') : rOut S' a m r' len' := by
  refine ⟨hO.2.2.2.1, ?_⟩
  have h10 := h.2.2.2.2.2.2.2.2.2.1
  have q7 := kin_lt hw hm.2.2.2.2.2.2.2.2.2
  rcases h10 with e | e
  · rw [e]; exact ho.2
  · right; omega
end KEEP
