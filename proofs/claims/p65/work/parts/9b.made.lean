/-! The law: both objects, newly made. -/
section MADE
variable {S S' S1 S2 : shp} {v v' v1 v2 w : vl} {a b m N n x k l k1 l1 i p0 : Nat} {E : Nat → Nat → Prop} {ln : Nat → Nat} {W : Nat → Nat → Int}
theorem nxt_mk (h : mkG E b k l S v S' v') : nxt S' = nxt S + k := by
  obtain ⟨-, -, -, h4, h5, -⟩ := h
  unfold nxt
  omega
theorem mkG_dn (h : mkG E b k l S v S' v') (hb : a ≤ b) (hE : ∀ x j, x < a → ¬ E x j) : mkG (fun _ _ => False) a k l S v S' v' := by
  obtain ⟨a1, a2, a3⟩ := h
  exact ⟨fun x hx => a1 x (by omega), fun x j hx _ => a2 x j (by omega) (hE x j hx), a3⟩
theorem mkG_sr {y : Option Nat} {j0 : Nat} (hw : wfS S) : mkG (fun x j => x = a ∧ j = j0) b 0 0 S v (sr S a j0 y) v :=
  ⟨fun x hx => ⟨rfl, rfl, rfl⟩, fun x j _ h => by rw [gr_sr, if_neg h], rfl, rfl, rfl, rfl, fun x hx => hw x hx⟩
theorem mkG_grow {d : kd} (hw : wfS S) : mkG (fun _ _ => False) (nxt S) 1 k S v (grow S d k) (zero v (nxt S)) :=
  ⟨fun x hx => ⟨by rw [kin_grow, if_neg (by omega)], rw_zero (by omega), zero2 (by omega)⟩, fun x j hx _ => by rw [gr_grow, if_neg (by omega)], rfl, rfl, rfl, rfl, fun x hx => by rw [nxt_grow] at hx; rw [kin_grow, if_neg (by omega)]; exact hw x (by omega)⟩
/-- the object, i of its States made -/
def gX (S : shp) (v : vl) (a i : Nat) : Prop := kin S a = some (0, 5) ∧ (∀ j, rw v a j = 0) ∧ (gr S a 0 = some (a + 1) ∧ gr S a 1 = some (a + 9)) ∧ TXN S v (a + 1) ∧ BXN S v (a + 9) ∧ ∀ j, j < i → gr S a (5 + j) = some (a + 11 + 6 * j) ∧ stD S v (a + 11 + 6 * j) (s00 10 0 0)
theorem gX_mk (hX : gX S v a i) (h : mkG E b k l S v S' v') (hb : a + 11 + 6 * i ≤ b) (h0 : ∀ y j, a < y → y < a + 11 + 6 * i → ¬ E y j) (h1 : ¬ E a 0 ∧ ¬ E a 1 ∧ ∀ j, j < i → ¬ E a (5 + j)) : gX S' v' a i := by
  obtain ⟨x1, x2, ⟨x3, x4⟩, x5, x6, x7⟩ := hX
  have h' : mkG (fun y j => E y j ∧ y < a + 11 + 6 * i) (a + 11 + 6 * i) k l S v S' v' := by
    obtain ⟨b1, b2, b3⟩ := h
    exact ⟨fun y hy => b1 y (by omega), fun y j hy hE => b2 y j (by omega) (fun q => hE ⟨q, hy⟩), b3⟩
  have h0' : ∀ y j, a < y → ¬ (E y j ∧ y < a + 11 + 6 * i) := fun y j hy q => h0 y j hy q.2 q.1
  obtain ⟨b1, b2, -⟩ := id h'
  refine ⟨by rw [(b1 a (by omega)).1]; exact x1, fun j => by rw [(b1 a (by omega)).2.1]; exact x2 j, ⟨by rw [b2 a 0 (by omega) (fun q => h1.1 q.1)]; exact x3, by rw [b2 a 1 (by omega) (fun q => h1.2.1 q.1)]; exact x4⟩, TXN_mk x5 h' (by omega) (fun y j hy => h0' y j (by omega)), BXN_mk x6 h' (by omega) (fun y j hy => h0' y j (by omega)), fun j hj => ?_⟩
  obtain ⟨g1, g2⟩ := x7 j hj
  exact ⟨by rw [b2 a _ (by omega) (fun q => h1.2.2 j hj q.1)]; exact g1, stD_mk g2 h' (by omega) (fun y j' hy => h0' y j' (by omega))⟩
theorem gX_step (hw : wfS S) (hX : gX S v a i) (hn : nxt S = a + 11 + 6 * i) : ∃ S2 v2, F_st_init (nxt S) (grow S (0, 4) (fTN 4).2.1) (zero v (nxt S)) = some (S2, v2) ∧ kin S2 a = some (0, 5) ∧ gX (sr S2 a (5 + i) (some (nxt S))) v2 a (i + 1) ∧ mkG (fun _ _ => False) a 6 64 S v (sr S2 a (5 + i) (some (nxt S))) v2 := by
  obtain ⟨S2, v2, e1, e2, e3, e4⟩ := st_new (v := v) hw
  have w2 : wfS S2 := e4.2.2.2.2.2.2
  have hX2 : gX S2 v2 a i := gX_mk hX e4 (by omega) (fun _ _ _ _ h => h) ⟨fun h => h, fun h => h, fun _ _ h => h⟩
  have ms : mkG (fun x j => x = a ∧ j = 5 + i) (nxt S + 6) 0 0 S2 v2 (sr S2 a (5 + i) (some (nxt S))) v2 := mkG_sr w2
  have hX3 : gX (sr S2 a (5 + i) (some (nxt S))) v2 a i := gX_mk hX2 ms (by omega) (fun y j hy _ q => by omega) ⟨fun q => by omega, fun q => by omega, fun j hj q => by omega⟩
  refine ⟨S2, v2, e1, hX2.1, ?_, mkG_tr (l1 := 0) (Nat.le_refl a) (mkG_dn e4 (by omega) (fun _ _ _ h => h)) (mkG_dn ms (by omega) (fun x j hx q => by omega)) (fun _ _ _ h => h)⟩
  obtain ⟨x1, x2, x3, x5, x6, x7⟩ := hX3
  refine ⟨x1, x2, x3, x5, x6, fun j hj => ?_⟩
  by_cases z : j < i
  · exact x7 j z
  · have ej : j = i := by omega
    subst ej
    refine ⟨by rw [gr_sr, if_pos ⟨rfl, rfl⟩, hn], ?_⟩
    rw [← hn]
    exact stD_mk e3 ms (Nat.le_refl _) (fun y j' hy q => by omega)
/-- the object, i of its past States made -/
def gY (S : shp) (v : vl) (a i : Nat) : Prop := gX S v a 4 ∧ gr S a 10 = some (a + 35) ∧ kin S (a + 35) = some (4, 8) ∧ ∀ j, j < i → gr S (a + 35) j = some (a + 36 + 6 * j) ∧ stL S (a + 36 + 6 * j)
theorem gY_mk (hY : gY S v a i) (h : mkG E b k l S v S' v') (hb : a + 36 + 6 * i ≤ b) (h0 : ∀ y j, y ≠ a + 35 → y < a + 36 + 6 * i → ¬ E y j) (h1 : ∀ j, j < i → ¬ E (a + 35) j) : gY S' v' a i := by
  obtain ⟨y1, y2, y3, y4⟩ := hY
  have h' : mkG (fun y j => E y j ∧ y < a + 36 + 6 * i) (a + 36 + 6 * i) k l S v S' v' := by
    obtain ⟨b1, b2, b3⟩ := h
    exact ⟨fun y hy => b1 y (by omega), fun y j hy hE => b2 y j (by omega) (fun q => hE ⟨q, hy⟩), b3⟩
  obtain ⟨b1, b2, -⟩ := id h'
  refine ⟨gX_mk y1 h' (by omega) (fun y j _ _ q => h0 y j (by omega) (by omega) q.1) ⟨fun q => h0 a 0 (by omega) (by omega) q.1, fun q => h0 a 1 (by omega) (by omega) q.1, fun j _ q => h0 a _ (by omega) (by omega) q.1⟩, by rw [b2 a 10 (by omega) (fun q => h0 a 10 (by omega) (by omega) q.1)]; exact y2, by rw [(b1 (a + 35) (by omega)).1]; exact y3, fun j hj => ?_⟩
  obtain ⟨g1, g2⟩ := y4 j hj
  exact ⟨by rw [b2 (a + 35) j (by omega) (fun q => h1 j hj q.1)]; exact g1, stL_mk g2 h' (by omega) (fun y j' hy q => h0 y j' (by omega) (by omega) q.1)⟩
theorem gc_initL : ∀ (k i F : Nat) (S : shp) (v : vl), i + k = 8 → k < F → gY S v a i → nxt S = a + 36 + 6 * i → wfS S → ∃ S' v', K_gc_init_81 N F S v a (J (i : Int)) = some (S', v') ∧ gY S' v' a 8 ∧ mkG (fun _ _ => False) a (6 * k) (64 * k) S v S' v'
  | _, _, 0, _, _, _, h, _, _, _ => absurd h (Nat.not_lt_zero _)
  | 0, i, F + 1, S, v, hi, _, hY, hn, hw => by
    have ei : i = 8 := by omega
    subst ei
    refine ⟨S, v, ?_, hY, ⟨fun _ _ => ⟨rfl, rfl, rfl⟩, fun _ _ _ _ => rfl, rfl, rfl, rfl, rfl, hw⟩⟩
    show Y_gc_init_81 N (K_gc_init_81 N F) S v a _ = _
    unfold Y_gc_init_81
    rw [if_neg (by decide)]
  | k + 1, i, F + 1, S, v, hi, hF, hY, hn, hw => by
    obtain ⟨S2, v2, e1, e2, e3, e4⟩ := st_new (v := v) hw
    have w2 : wfS S2 := e4.2.2.2.2.2.2
    have hY2 : gY S2 v2 a i := gY_mk hY e4 (by omega) (fun _ _ _ _ h => h) (fun _ _ h => h)
    obtain ⟨S3, eS3⟩ : ∃ S3, S3 = sr S2 (a + 35) i (some (nxt S)) := ⟨_, rfl⟩
    have ms : mkG (fun x j => x = a + 35 ∧ j = i) (nxt S + 6) 0 0 S2 v2 S3 v2 := by rw [eS3]; exact mkG_sr w2
    have hY3 : gY S3 v2 a i := gY_mk hY2 ms (by omega) (fun y j hy _ q => by omega) (fun j hj q => by omega)
    have n3 : nxt S3 = nxt S + 6 := by rw [nxt_mk ms, nxt_mk e4]
    have w3 : wfS S3 := ms.2.2.2.2.2.2
    have hY4 : gY S3 v2 a (i + 1) := by
      obtain ⟨y1, y2, y3, y4⟩ := hY3
      refine ⟨y1, y2, y3, fun j hj => ?_⟩
      by_cases z : j < i
      · exact y4 j z
      · have ej : j = i := by omega
        subst ej
        refine ⟨by rw [eS3, gr_sr, if_pos ⟨rfl, rfl⟩, hn], ?_⟩
        rw [← hn]
        exact stL_mk e2 ms (Nat.le_refl _) (fun y j' hy q => by omega)
    obtain ⟨S', v', f1, f2, f3⟩ := gc_initL k (i + 1) F S3 v2 (by omega) (by omega) hY4 (by omega) w3
    have m3 : mkG (fun _ _ => False) a (6 + 0) (64 + 0) S v S3 v2 := mkG_tr (Nat.le_refl a) (mkG_dn e4 (by omega) (fun _ _ _ h => h)) (mkG_dn ms (by omega) (fun x j hx q => by omega)) (fun _ _ _ h => h)
    have m4 := mkG_tr (Nat.le_refl a) m3 f3 (fun _ _ _ h => h)
    rw [show 6 + 0 + 6 * k = 6 * (k + 1) by omega, show 64 + 0 + 64 * k = 64 * (k + 1) by omega] at m4
    refine ⟨S', v', ?_, f2, m4⟩
    have ti : (J (i : Int)).toInt = ((i : Nat) : Int) := J_toInt (by omega) (by omega)
    show Y_gc_init_81 N (K_gc_init_81 N F) S v a _ = _
    unfold Y_gc_init_81
    rw [if_pos ((J_lt (by omega) (by omega)).mpr (by omega)), grd_true _ hY.1.1, hY.2.1]
    simp only [Option.bind_some]
    rw [grd_true _ (hw _ (Nat.le_refl _)), lt3_def, e1]
    simp only [Option.bind_some]
    rw [grd_true _ hY2.2.2.1, grd_true _ (vin_of hY2.2.2.1 ti (by omega)), lt_def, clampT ti, ← eS3, J_s]
    exact f1
/-- the object, newly made -/
theorem gc_made (hN : 100 ≤ N) (hw : wfS S) (ha : a = nxt S) : ∃ S' v', F_gc_init N a (grow S (0, 5) (fTN 5).2.1) (zero v a) = some (S', v') ∧ gY S' v' a 8 ∧ mkG (fun _ _ => False) a 84 1386 S v S' v' := by
  obtain ⟨A, eA⟩ : ∃ A, A = grow S (0, 5) (fTN 5).2.1 := ⟨_, rfl⟩
  obtain ⟨u, eu⟩ : ∃ u, u = zero v a := ⟨_, rfl⟩
  have mA : mkG (fun _ _ => False) a 1 13 S v A u := by
    rw [eA, eu, ha]
    exact mkG_grow hw
  have nA : nxt A = a + 1 := by rw [nxt_mk mA, ha]
  have wA : wfS A := mA.2.2.2.2.2.2
  have kA : kin A a = some (0, 5) := by rw [eA, kin_grow, if_pos ha]
  have rA : ∀ j, rw u a j = 0 := fun j => by rw [eu, rw_zero0]
  obtain ⟨B, vB, f1, f2, f3⟩ := tx_new (v := u) wA
  have wB : wfS B := f3.2.2.2.2.2.2
  have nB : nxt B = a + 9 := by rw [nxt_mk f3, nA]
  rw [nA] at f2 f3
  have kB : kin B a = some (0, 5) := by rw [(f3.1 a (by omega)).1]; exact kA
  obtain ⟨C, eC⟩ : ∃ C, C = sr B a 0 (some (nxt A)) := ⟨_, rfl⟩
  have mC : mkG (fun x j => x = a ∧ j = 0) (a + 9) 0 0 B vB C vB := by rw [eC]; exact mkG_sr wB
  have wC : wfS C := mC.2.2.2.2.2.2
  have nC : nxt C = a + 9 := by rw [nxt_mk mC, nB]
  have xC : TXN C vB (a + 1) := TXN_mk f2 mC (by omega) (fun y j hy q => by omega)
  obtain ⟨D, vD, g1, g2, g3⟩ := sb_new (v := vB) wC
  have wD : wfS D := g3.2.2.2.2.2.2
  have nD : nxt D = a + 11 := by rw [nxt_mk g3, nC]
  rw [nC] at g2 g3
  have kD : kin D a = some (0, 5) := by rw [(g3.1 a (by omega)).1, (mC.1 a (by omega)).1]; exact kB
  obtain ⟨G, eG⟩ : ∃ G, G = sr D a 1 (some (nxt C)) := ⟨_, rfl⟩
  have mG : mkG (fun x j => x = a ∧ j = 1) (a + 11) 0 0 D vD G vD := by rw [eG]; exact mkG_sr wD
  have wG : wfS G := mG.2.2.2.2.2.2
  have nG : nxt G = a + 11 + 6 * 0 := by rw [nxt_mk mG, nD]
  have X0 : gX G vD a 0 := by
    refine ⟨by rw [(mG.1 a (by omega)).1]; exact kD, fun j => ?_, ⟨?_, by rw [eG, gr_sr, if_pos ⟨rfl, rfl⟩, nC]⟩, TXN_mk (TXN_mk xC g3 (by omega) (fun _ _ _ h => h)) mG (by omega) (fun y j hy q => by omega), BXN_mk g2 mG (by omega) (fun y j hy q => by omega), fun j hj => absurd hj (Nat.not_lt_zero _)⟩
    · rw [(g3.1 a (by omega)).2.1, (f3.1 a (by omega)).2.1]
      exact rA j
    · rw [mG.2.1 a 0 (by omega) (by omega), g3.2.1 a 0 (by omega) (fun h => h), eC, gr_sr, if_pos ⟨rfl, rfl⟩, nA]
  have M0 : mkG (fun _ _ => False) a (1 + 8 + 0 + 2 + 0) (13 + 577 + 0 + 20 + 0) S v G vD := mkG_tr (Nat.le_refl a) (mkG_tr (Nat.le_refl a) (mkG_tr (Nat.le_refl a) (mkG_tr (Nat.le_refl a) mA (mkG_dn f3 (by omega) (fun _ _ _ h => h)) (fun _ _ _ h => h)) (mkG_dn mC (by omega) (fun x j hx q => by omega)) (fun _ _ _ h => h)) (mkG_dn g3 (by omega) (fun _ _ _ h => h)) (fun _ _ _ h => h)) (mkG_dn mG (by omega) (fun x j hx q => by omega)) (fun _ _ _ h => h)
  obtain ⟨P0, u0, s01, s02, X1, t0⟩ := gX_step wG X0 nG
  obtain ⟨H0, eH0⟩ : ∃ H0, H0 = sr P0 a (5 + 0) (some (nxt G)) := ⟨_, rfl⟩
  rw [← eH0] at X1 t0
  have wH0 : wfS H0 := t0.2.2.2.2.2.2
  have nH0 : nxt H0 = a + 11 + 6 * 1 := by rw [nxt_mk t0, nG]
  have M1 := mkG_tr (Nat.le_refl a) M0 t0 (fun _ _ _ h => h)
  obtain ⟨P1, u1, s11, s12, X2, t1⟩ := gX_step wH0 X1 nH0
  obtain ⟨H1, eH1⟩ : ∃ H1, H1 = sr P1 a (5 + 1) (some (nxt H0)) := ⟨_, rfl⟩
  rw [← eH1] at X2 t1
  have wH1 : wfS H1 := t1.2.2.2.2.2.2
  have nH1 : nxt H1 = a + 11 + 6 * 2 := by rw [nxt_mk t1, nH0]
  have M2 := mkG_tr (Nat.le_refl a) M1 t1 (fun _ _ _ h => h)
  obtain ⟨P2, u2, s21, s22, X3, t2⟩ := gX_step wH1 X2 nH1
  obtain ⟨H2, eH2⟩ : ∃ H2, H2 = sr P2 a (5 + 2) (some (nxt H1)) := ⟨_, rfl⟩
  rw [← eH2] at X3 t2
  have wH2 : wfS H2 := t2.2.2.2.2.2.2
  have nH2 : nxt H2 = a + 11 + 6 * 3 := by rw [nxt_mk t2, nH1]
  have M3 := mkG_tr (Nat.le_refl a) M2 t2 (fun _ _ _ h => h)
  obtain ⟨P3, u3, s31, s32, X4, t3⟩ := gX_step wH2 X3 nH2
  obtain ⟨H3, eH3⟩ : ∃ H3, H3 = sr P3 a (5 + 3) (some (nxt H2)) := ⟨_, rfl⟩
  rw [← eH3] at X4 t3
  have wH3 : wfS H3 := t3.2.2.2.2.2.2
  have nH3 : nxt H3 = a + 11 + 6 * 4 := by rw [nxt_mk t3, nH2]
  have M4 := mkG_tr (Nat.le_refl a) M3 t3 (fun _ _ _ h => h)
  obtain ⟨Q, eQ⟩ : ∃ Q, Q = grow H3 (4, 8) 8 := ⟨_, rfl⟩
  obtain ⟨z, ez⟩ : ∃ z, z = zero u3 (nxt H3) := ⟨_, rfl⟩
  have mQ : mkG (fun _ _ => False) (a + 35) 1 8 H3 u3 Q z := by
    rw [eQ, ez, show a + 35 = nxt H3 by rw [nH3]]
    exact mkG_grow wH3
  have wQ : wfS Q := mQ.2.2.2.2.2.2
  have XQ : gX Q z a 4 := gX_mk X4 mQ (by omega) (fun _ _ _ _ h => h) ⟨fun h => h, fun h => h, fun _ _ h => h⟩
  obtain ⟨R, eR⟩ : ∃ R, R = sr Q a 10 (some (nxt H3)) := ⟨_, rfl⟩
  have mR : mkG (fun x j => x = a ∧ j = 10) (a + 36) 0 0 Q z R z := by rw [eR]; exact mkG_sr wQ
  have wR : wfS R := mR.2.2.2.2.2.2
  have XR : gX R z a 4 := gX_mk XQ mR (by omega) (fun y j hy _ q => by omega) ⟨fun q => by omega, fun q => by omega, fun j hj q => by omega⟩
  have nR : nxt R = a + 36 + 6 * 0 := by rw [nxt_mk mR, nxt_mk mQ, nH3]
  have YR : gY R z a 0 := ⟨XR, by rw [eR, gr_sr, if_pos ⟨rfl, rfl⟩, nH3], by rw [(mR.1 (a + 35) (by omega)).1, eQ, kin_grow, if_pos (by rw [nH3])], fun j hj => absurd hj (Nat.not_lt_zero _)⟩
  obtain ⟨S', v', l1, l2, l3⟩ := gc_initL (N := N) 8 0 N R z rfl (by omega) YR nR wR
  have M5 := mkG_tr (Nat.le_refl a) (mkG_tr (Nat.le_refl a) (mkG_tr (Nat.le_refl a) M4 (mkG_dn mQ (by omega) (fun _ _ _ h => h)) (fun _ _ _ h => h)) (mkG_dn mR (by omega) (fun x j hx q => by omega)) (fun _ _ _ h => h)) l3 (fun _ _ _ h => h)
  refine ⟨S', v', ?_, l2, M5⟩
  rw [← eA, ← eu]
  unfold F_gc_init
  rw [grd_true _ (wA _ (Nat.le_refl _)), lt3_def, f1]
  simp only [Option.bind_some]
  rw [grd_true _ kB, lt_def, ← eC, grd_true _ (wC _ (Nat.le_refl _)), lt3_def, g1]
  simp only [Option.bind_some]
  rw [grd_true _ kD, lt_def, ← eG, grd_true _ (wG _ (Nat.le_refl _)), lt3_def, s01]
  simp only [Option.bind_some]
  rw [grd_true _ s02, lt_def, show sr P0 a 5 (some (nxt G)) = H0 from eH0.symm, grd_true _ (wH0 _ (Nat.le_refl _)), lt3_def, s11]
  simp only [Option.bind_some]
  rw [grd_true _ s12, lt_def, show sr P1 a 6 (some (nxt H0)) = H1 from eH1.symm, grd_true _ (wH1 _ (Nat.le_refl _)), lt3_def, s21]
  simp only [Option.bind_some]
  rw [grd_true _ s22, lt_def, show sr P2 a 7 (some (nxt H1)) = H2 from eH2.symm, grd_true _ (wH2 _ (Nat.le_refl _)), lt3_def, s31]
  simp only [Option.bind_some]
  rw [grd_true _ s32, lt_def, show sr P3 a 8 (some (nxt H2)) = H3 from eH3.symm, grd_true _ (wH3 _ (Nat.le_refl _)), lt3_def, ← eQ, ← ez, grd_true _ XQ.1, lt_def, ← eR]
  exact l1
end MADE
