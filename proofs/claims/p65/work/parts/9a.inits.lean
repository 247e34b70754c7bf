/-! The law: what both objects are when made. -/
section INITS
variable {S S' S1 S2 : shp} {v v' v1 v2 w : vl} {a b m N n x k l k1 l1 : Nat} {E : Nat → Nat → Prop}
theorem kin_sr {y : Option Nat} {j : Nat} : kin (sr S a j y) b = kin S b := rfl
theorem nxt_sr {y : Option Nat} {j : Nat} : nxt (sr S a j y) = nxt S := rfl
theorem nxt_grow {d : kd} : nxt (grow S d k) = nxt S + 1 := rfl
theorem rw_zero0 : rw (zero v a) a = fun _ => 0 := by
  funext j
  show (if a = a then 0 else v.1 a j) = 0
  rw [if_pos rfl]
theorem zero2 (h : b ≠ a) : (zero v a).2 b = v.2 b := by
  funext j
  show (if b = a then 0 else v.2 b j) = v.2 b j
  rw [if_neg h]
/-- made from b on: k cells, l slots; the references E alone moved below -/
def mkG (E : Nat → Nat → Prop) (b k l : Nat) (S : shp) (v : vl) (S' : shp) (v' : vl) : Prop := (∀ x, x < b → kin S' x = kin S x ∧ rw v' x = rw v x ∧ v'.2 x = v.2 x) ∧ (∀ x j, x < b → ¬ E x j → gr S' x j = gr S x j) ∧ kad S' = kad S ∧ bas S' = bas S ∧ cn S' = cn S + k ∧ cz S' = cz S + l ∧ wfS S'
theorem mkG_tr {E1 : Nat → Nat → Prop} (hb : a ≤ b) (h1 : mkG (fun _ _ => False) a k l S v S1 v1) (h2 : mkG E1 b k1 l1 S1 v1 S' v') (hE : ∀ x j, x < a → ¬ E1 x j) : mkG (fun _ _ => False) a (k + k1) (l + l1) S v S' v' := by
  obtain ⟨a1, a2, a3, a4, a5, a6, a7⟩ := h1
  obtain ⟨b1, b2, b3, b4, b5, b6, b7⟩ := h2
  refine ⟨fun x hx => ?_, fun x j hx _ => ?_, b3.trans a3, b4.trans a4, by omega, by omega, b7⟩
  · obtain ⟨p1, p2, p3⟩ := a1 x hx
    obtain ⟨q1, q2, q3⟩ := b1 x (by omega)
    exact ⟨q1.trans p1, q2.trans p2, q3.trans p3⟩
  · exact (b2 x j (by omega) (hE x j hx)).trans (a2 x j hx (fun h => h))
theorem stL_mk (hl : stL S x) (h : mkG E b k l S v S' v') (hx : x + 6 ≤ b) (hE : ∀ y j, x ≤ y → ¬ E y j) : stL S' x := by
  obtain ⟨b1, b2, -⟩ := h
  obtain ⟨k0, g6, k1, g7, ⟨k2, k3, k4, g10, g11⟩, g8, k5⟩ := hl
  exact ⟨by rw [(b1 x (by omega)).1]; exact k0, by rw [b2 x _ (by omega) (hE _ _ (by omega))]; exact g6, by rw [(b1 (x + 1) (by omega)).1]; exact k1, by rw [b2 x _ (by omega) (hE _ _ (by omega))]; exact g7, ⟨by rw [(b1 (x + 2) (by omega)).1]; exact k2, by rw [(b1 (x + 2 + 1) (by omega)).1]; exact k3, by rw [(b1 (x + 2 + 2) (by omega)).1]; exact k4, by rw [b2 (x + 2) _ (by omega) (hE _ _ (by omega))]; exact g10, by rw [b2 (x + 2) _ (by omega) (hE _ _ (by omega))]; exact g11⟩, by rw [b2 x _ (by omega) (hE _ _ (by omega))]; exact g8, by rw [(b1 (x + 5) (by omega)).1]; exact k5⟩
theorem stD_mk {s : sta} (hd : stD S v x s) (h : mkG E b k l S v S' v') (hx : x + 6 ≤ b) (hE : ∀ y j, x ≤ y → ¬ E y j) : stD S' v' x s := by
  have hl' := stL_mk hd.1 h hx hE
  obtain ⟨b1, -⟩ := h
  obtain ⟨hl, hh, hc, ⟨l2, hg, ht⟩⟩ := hd
  exact ⟨hl', by rw [(b1 x (by omega)).2.1]; exact hh, by rw [(b1 (x + 1) (by omega)).2.1]; exact hc, hl'.2.2.2.2.1, by rw [(b1 (x + 2) (by omega)).2.1]; exact hg, fun i hi => by rw [(b1 (x + 2 + 1) (by omega)).2.1, (b1 (x + 2 + 2) (by omega)).2.1]; exact ht i hi⟩
/-- a signal's two rows -/
def sgN (S : shp) (b : Nat) : shp := sr (grow (sr (grow S (1, 8) 8) b 10 (some (nxt S))) (1, 8) 8) b 11 (some (nxt S + 1))
theorem sg_made (hw : wfS S) (kb : kin S b = some (0, 3)) : F_sg_init b S v = some (sgN S b, zero (zero v (nxt S)) (nxt S + 1)) := by
  have hb := kin_lt hw kb
  have k1 : kin (grow S (1, 8) 8) b = some (0, 3) := by rw [kin_grow, if_neg (by omega)]; exact kb
  unfold F_sg_init
  rw [grd_true _ (hw _ (Nat.le_refl _)), lt3_def]
  rw [grd_true _ k1, lt_def]
  rw [grd_true _ (show kin (sr (grow S (1, 8) 8) b 10 (some (nxt S))) (nxt (sr (grow S (1, 8) 8) b 10 (some (nxt S)))) = none by rw [kin_sr, nxt_sr, nxt_grow, kin_grow, if_neg (by omega)]; exact hw _ (by omega)), lt3_def]
  rw [grd_true _ (show kin (grow (sr (grow S (1, 8) 8) b 10 (some (nxt S))) (1, 8) 8) b = some (0, 3) by rw [kin_grow, if_neg (by rw [nxt_sr, nxt_grow]; omega), kin_sr]; exact k1), lt_def]
  rfl
theorem kin_sgN {y : Nat} : kin (sgN S b) y = if y = nxt S + 1 then some (1, 8) else if y = nxt S then some (1, 8) else kin S y := rfl
theorem gr_sgN {y j : Nat} : gr (sgN S b) y j = if y = b ∧ j = 11 then some (nxt S + 1) else if y = nxt S + 1 then none else if y = b ∧ j = 10 then some (nxt S) else if y = nxt S then none else gr S y j := rfl
/-- a State, newly made -/
theorem st_new (hw : wfS S) : ∃ S' v', F_st_init (nxt S) (grow S (0, 4) (fTN 4).2.1) (zero v (nxt S)) = some (S', v') ∧ stL S' (nxt S) ∧ stD S' v' (nxt S) (s00 10 0 0) ∧ mkG (fun _ _ => False) (nxt S) 6 64 S v S' v' := by
  obtain ⟨b, hb⟩ : ∃ b, b = nxt S := ⟨_, rfl⟩
  obtain ⟨A, eA⟩ : ∃ A, A = grow S (0, 4) (fTN 4).2.1 := ⟨_, rfl⟩
  have nA : nxt A = b + 1 := by rw [eA, nxt_grow, hb]
  have kA : ∀ y, kin A y = if y = b then some (0, 4) else kin S y := fun y => by rw [eA, kin_grow, ← hb]
  have gA : ∀ y j, gr A y j = if y = b then none else gr S y j := fun y j => by rw [eA, gr_grow, ← hb]
  -- the clock
  obtain ⟨B, eB⟩ : ∃ B, B = sr (grow A (0, 0) (fTN 0).2.1) b 6 (some (b + 1)) := ⟨_, rfl⟩
  have nB : nxt B = b + 2 := by rw [eB, nxt_sr, nxt_grow, nA]
  have kB : ∀ y, kin B y = if y = b + 1 then some (0, 0) else kin A y := fun y => by rw [eB, kin_sr, kin_grow, nA]
  have gB : ∀ y j, gr B y j = if y = b ∧ j = 6 then some (b + 1) else if y = b + 1 then none else gr A y j := fun y j => by rw [eB, gr_sr, gr_grow, nA]
  -- the signal
  obtain ⟨C, eC⟩ : ∃ C, C = grow B (0, 3) (fTN 3).2.1 := ⟨_, rfl⟩
  have nC : nxt C = b + 3 := by rw [eC, nxt_grow, nB]
  have kC : ∀ y, kin C y = if y = b + 2 then some (0, 3) else kin B y := fun y => by rw [eC, kin_grow, nB]
  have gC : ∀ y j, gr C y j = if y = b + 2 then none else gr B y j := fun y j => by rw [eC, gr_grow, nB]
  have wC : wfS C := fun y hy => by
    rw [nC] at hy
    rw [kC, if_neg (by omega), kB, if_neg (by omega), kA, if_neg (by omega)]
    exact hw y (by omega)
  have kCs : kin C (b + 2) = some (0, 3) := by rw [kC, if_pos rfl]
  obtain ⟨D, eD⟩ : ∃ D, D = sr (sgN C (b + 2)) b 7 (some (b + 2)) := ⟨_, rfl⟩
  have nD : nxt D = b + 5 := by
    rw [eD, nxt_sr]
    show nxt C + 2 = b + 5
    omega
  have kD : ∀ y, kin D y = if y = b + 3 + 1 then some (1, 8) else if y = b + 3 then some (1, 8) else kin C y := fun y => by rw [eD, kin_sr, kin_sgN, nC]
  have gD : ∀ y j, gr D y j = if y = b ∧ j = 7 then some (b + 2) else if y = b + 2 ∧ j = 11 then some (b + 3 + 1) else if y = b + 3 + 1 then none else if y = b + 2 ∧ j = 10 then some (b + 3) else if y = b + 3 then none else gr C y j := fun y j => by rw [eD, gr_sr, gr_sgN, nC]
  -- the measurements
  obtain ⟨T, eT⟩ : ∃ T, T = sr (grow D (5, 20) 20) b 8 (some (b + 5)) := ⟨_, rfl⟩
  have nT : nxt T = b + 6 := by rw [eT, nxt_sr, nxt_grow, nD]
  have kT : ∀ y, kin T y = if y = b + 5 then some (5, 20) else kin D y := fun y => by rw [eT, kin_sr, kin_grow, nD]
  have gT : ∀ y j, gr T y j = if y = b ∧ j = 8 then some (b + 5) else if y = b + 5 then none else gr D y j := fun y j => by rw [eT, gr_sr, gr_grow, nD]
  have lT : stL T b := by
    refine ⟨?_, ?_, ?_, ?_, ⟨?_, ?_, ?_, ?_, ?_⟩, ?_, ?_⟩
    · rw [kT, if_neg (by omega), kD, if_neg (by omega), if_neg (by omega), kC, if_neg (by omega), kB, if_neg (by omega), kA, if_pos rfl]
    · rw [gT, if_neg (by omega), if_neg (by omega), gD, if_neg (by omega), if_neg (by omega), if_neg (by omega), if_neg (by omega), if_neg (by omega), gC, if_neg (by omega), gB, if_pos ⟨rfl, rfl⟩]
    · rw [kT, if_neg (by omega), kD, if_neg (by omega), if_neg (by omega), kC, if_neg (by omega), kB, if_pos rfl]
    · rw [gT, if_neg (by omega), if_neg (by omega), gD, if_pos ⟨rfl, rfl⟩]
    · rw [kT, if_neg (by omega), kD, if_neg (by omega), if_neg (by omega), kC, if_pos rfl]
    · rw [kT, if_neg (by omega), kD, if_neg (by omega), if_pos (by omega)]
    · rw [kT, if_neg (by omega), kD, if_pos (by omega)]
    · rw [gT, if_neg (by omega), if_neg (by omega), gD, if_neg (by omega), if_neg (by omega), if_neg (by omega), if_pos ⟨rfl, rfl⟩]
    · rw [gT, if_neg (by omega), if_neg (by omega), gD, if_neg (by omega), if_pos ⟨rfl, rfl⟩]
    · rw [gT, if_pos ⟨rfl, rfl⟩]
    · rw [kT, if_pos rfl]
  obtain ⟨u, eu⟩ : ∃ u, u = zero (zero (zero (zero (zero (zero v b) (b + 1)) (b + 2)) (b + 3)) (b + 3 + 1)) (b + 5) := ⟨_, rfl⟩
  obtain ⟨v', c1, c2, c3⟩ := st_clear (v := u) lT
  refine ⟨T, v', ?_, by rw [← hb]; exact lT, by rw [← hb]; exact c2, ?_⟩
  · rw [← eA, ← hb]
    unfold F_st_init
    rw [nA, grd_true _ (show kin A (b + 1) = none by rw [kA, if_neg (by omega)]; exact hw _ (by omega)), lt3_def]
    unfold F_ck_init
    simp only [Option.bind_some]
    rw [grd_true _ (show kin (grow A (0, 0) (fTN 0).2.1) b = some (0, 4) by rw [kin_grow, if_neg (by omega), kA, if_pos rfl]), lt_def]
    rw [← eB, nB, grd_true _ (show kin B (b + 2) = none by rw [kB, if_neg (by omega), kA, if_neg (by omega)]; exact hw _ (by omega)), lt3_def]
    rw [← eC, sg_made wC kCs, nC]
    simp only [Option.bind_some]
    rw [grd_true _ (show kin (sgN C (b + 2)) b = some (0, 4) by rw [kin_sgN, nC, if_neg (by omega), if_neg (by omega), kC, if_neg (by omega), kB, if_neg (by omega), kA, if_pos rfl]), lt_def]
    rw [← eD, nD, grd_true _ (show kin D (b + 5) = none by rw [kD, if_neg (by omega), if_neg (by omega)]; exact wC _ (by omega)), lt3_def]
    rw [grd_true _ (show kin (grow D (5, 20) 20) b = some (0, 4) by rw [kin_grow, if_neg (by omega), kD, if_neg (by omega), if_neg (by omega), kC, if_neg (by omega), kB, if_neg (by omega), kA, if_pos rfl]), lt_def]
    rw [← eT, ← eu, c1]
    simp only [Option.bind_some]
  · rw [← hb]
    refine ⟨fun y hy => ⟨?_, ?_, ?_⟩, fun y j hy _ => ?_, by rw [eT, eD, eC, eB, eA]; rfl, by rw [eT, eD, eC, eB, eA]; rfl, by rw [eT, eD, eC, eB, eA]; rfl, by rw [eT, eD, eC, eB, eA]; rfl, fun y hy => ?_⟩
    · rw [kT, if_neg (by omega), kD, if_neg (by omega), if_neg (by omega), kC, if_neg (by omega), kB, if_neg (by omega), kA, if_neg (by omega)]
    · rw [c3.2 y (by omega), eu, rw_zero (by omega), rw_zero (by omega), rw_zero (by omega), rw_zero (by omega), rw_zero (by omega), rw_zero (by omega)]
    · rw [c3.1, eu, zero2 (by omega), zero2 (by omega), zero2 (by omega), zero2 (by omega), zero2 (by omega), zero2 (by omega)]
    · rw [gT, if_neg (by omega), if_neg (by omega), gD, if_neg (by omega), if_neg (by omega), if_neg (by omega), if_neg (by omega), if_neg (by omega), gC, if_neg (by omega), gB, if_neg (by omega), if_neg (by omega), gA, if_neg (by omega)]
    · rw [nT] at hy
      rw [kT, if_neg (by omega), kD, if_neg (by omega), if_neg (by omega)]
      exact wC y (by omega)
/-- the reader, newly made; a builder too -/
def TXN (S : shp) (v : vl) (x : Nat) : Prop := (kin S x = some (0, 2) ∧ gr S x 0 = some (x + 1) ∧ kin S (x + 1) = some (2, 500) ∧ gr S x 4 = some (x + 2)) ∧ stL S (x + 2) ∧ rw v x 1 = 0 ∧ rw v x 2 = 0 ∧ rw v x 3 = J (-1)
def BXN (S : shp) (v : vl) (x : Nat) : Prop := (kin S x = some (0, 7) ∧ gr S x 0 = some (x + 1) ∧ kin S (x + 1) = some (2, 16)) ∧ (∀ j, rw v x j = 0) ∧ ∀ j, rw v (x + 1) j = 0
theorem TXN_mk (h0 : TXN S v x) (h : mkG E b k l S v S' v') (hx : x + 8 ≤ b) (hE : ∀ y j, x ≤ y → ¬ E y j) : TXN S' v' x := by
  obtain ⟨⟨t1, t2, t3, t4⟩, t5, t6, t7, t8⟩ := h0
  have hl := stL_mk t5 h (by omega) (fun y j hy => hE y j (by omega))
  obtain ⟨b1, b2, -⟩ := h
  have r := (b1 x (by omega)).2.1
  exact ⟨⟨by rw [(b1 x (by omega)).1]; exact t1, by rw [b2 x _ (by omega) (hE _ _ (by omega))]; exact t2, by rw [(b1 (x + 1) (by omega)).1]; exact t3, by rw [b2 x _ (by omega) (hE _ _ (by omega))]; exact t4⟩, hl, by rw [r]; exact t6, by rw [r]; exact t7, by rw [r]; exact t8⟩
theorem BXN_mk (h0 : BXN S v x) (h : mkG E b k l S v S' v') (hx : x + 2 ≤ b) (hE : ∀ y j, x ≤ y → ¬ E y j) : BXN S' v' x := by
  obtain ⟨⟨t1, t2, t3⟩, t5, t6⟩ := h0
  obtain ⟨b1, b2, -⟩ := h
  exact ⟨⟨by rw [(b1 x (by omega)).1]; exact t1, by rw [b2 x _ (by omega) (hE _ _ (by omega))]; exact t2, by rw [(b1 (x + 1) (by omega)).1]; exact t3⟩, fun j => by rw [(b1 x (by omega)).2.1]; exact t5 j, fun j => by rw [(b1 (x + 1) (by omega)).2.1]; exact t6 j⟩
theorem tx_new (hw : wfS S) : ∃ S' v', F_tx_init (nxt S) (grow S (0, 2) (fTN 2).2.1) (zero v (nxt S)) = some (S', v') ∧ TXN S' v' (nxt S) ∧ mkG (fun _ _ => False) (nxt S) 8 577 S v S' v' := by
  obtain ⟨b, hb⟩ : ∃ b, b = nxt S := ⟨_, rfl⟩
  obtain ⟨A, eA⟩ : ∃ A, A = grow S (0, 2) (fTN 2).2.1 := ⟨_, rfl⟩
  have nA : nxt A = b + 1 := by rw [eA, nxt_grow, hb]
  have kA : ∀ y, kin A y = if y = b then some (0, 2) else kin S y := fun y => by rw [eA, kin_grow, ← hb]
  have gA : ∀ y j, gr A y j = if y = b then none else gr S y j := fun y j => by rw [eA, gr_grow, ← hb]
  obtain ⟨B, eB⟩ : ∃ B, B = sr (grow A (2, 500) 500) b 0 (some (b + 1)) := ⟨_, rfl⟩
  have nB : nxt B = b + 2 := by rw [eB, nxt_sr, nxt_grow, nA]
  have kB : ∀ y, kin B y = if y = b + 1 then some (2, 500) else kin A y := fun y => by rw [eB, kin_sr, kin_grow, nA]
  have gB : ∀ y j, gr B y j = if y = b ∧ j = 0 then some (b + 1) else if y = b + 1 then none else gr A y j := fun y j => by rw [eB, gr_sr, gr_grow, nA]
  have wB : wfS B := fun y hy => by
    rw [nB] at hy
    rw [kB, if_neg (by omega), kA, if_neg (by omega)]
    exact hw y (by omega)
  obtain ⟨u, eu⟩ : ∃ u, u = zero (zero v b) (b + 1) := ⟨_, rfl⟩
  obtain ⟨C, vC, c1, c2, c3, ⟨c4, c5, c6, c7, c8, c9, c10⟩⟩ := st_new (v := u) wB
  rw [nB] at c1 c2 c3 c4 c5
  obtain ⟨T, eT⟩ : ∃ T, T = sr C b 4 (some (b + 2)) := ⟨_, rfl⟩
  have kT : ∀ y, kin T y = kin C y := fun y => by rw [eT, kin_sr]
  have gT : ∀ y j, gr T y j = if y = b ∧ j = 4 then some (b + 2) else gr C y j := fun y j => by rw [eT, gr_sr]
  have kb : kin C b = some (0, 2) := by rw [(c4 b (by omega)).1, kB, if_neg (by omega), kA, if_pos rfl]
  refine ⟨T, wr vC b (up (rw vC b) 3 (J (-1))), ?_, ?_, ?_⟩
  · rw [← eA, ← hb]
    unfold F_tx_init
    rw [nA, grd_true _ (show kin A (b + 1) = none by rw [kA, if_neg (by omega)]; exact hw _ (by omega)), lt3_def]
    rw [grd_true _ (show kin (grow A (2, 500) 500) b = some (0, 2) by rw [kin_grow, if_neg (by omega), kA, if_pos rfl]), lt_def]
    rw [← eB, nB, grd_true _ (wB _ (by omega)), lt3_def]
    rw [← eu, c1]
    simp only [Option.bind_some]
    rw [grd_true _ kb, lt_def]
    rw [← eT, lt_def, si_wr]
  · have rb : rw vC b = fun _ => 0 := by rw [(c4 b (by omega)).2.1, eu, rw_zero (by omega), rw_zero0]
    rw [← hb]
    refine ⟨⟨by rw [kT]; exact kb, ?_, ?_, by rw [gT, if_pos ⟨rfl, rfl⟩]⟩, ?_, by rw [rw_wr, up_ne (by decide), rb], by rw [rw_wr, up_ne (by decide), rb], by rw [rw_wr, up_same]⟩
    · rw [gT, if_neg (by omega), c5 _ _ (by omega) (fun h => h), gB, if_pos ⟨rfl, rfl⟩]
    · rw [kT, (c4 (b + 1) (by omega)).1, kB, if_pos rfl]
    · have hm : mkG (fun y _ => y = b) (b + 8) 0 0 C vC T vC := ⟨fun y _ => ⟨kT y, rfl, rfl⟩, fun y j _ hy => by rw [gT, if_neg (fun q => hy q.1)], by rw [eT]; rfl, by rw [eT]; rfl, by rw [eT]; rfl, by rw [eT]; rfl, fun y hy => by rw [kT]; exact c10 y (by rw [eT] at hy; exact hy)⟩
      exact stL_mk c2 hm (by omega) (fun y j hy q => by omega)
  · rw [← hb]
    refine ⟨fun y hy => ⟨?_, ?_, ?_⟩, fun y j hy _ => ?_, ?_, ?_, ?_, ?_, fun y hy => by rw [kT]; exact c10 y (by rw [eT] at hy; exact hy)⟩
    · rw [kT, (c4 y (by omega)).1, kB, if_neg (by omega), kA, if_neg (by omega)]
    · rw [rw_wr_ne (by omega), (c4 y (by omega)).2.1, eu, rw_zero (by omega), rw_zero (by omega)]
    · show vC.2 y = v.2 y
      rw [(c4 y (by omega)).2.2, eu, zero2 (by omega), zero2 (by omega)]
    · rw [gT, if_neg (by omega), c5 _ _ (by omega) (fun h => h), gB, if_neg (by omega), if_neg (by omega), gA, if_neg (by omega)]
    · rw [eT]
      show kad C = kad S
      rw [c6, eB, eA]
      rfl
    · rw [eT]
      show bas C = bas S
      rw [c7, eB, eA]
      rfl
    · rw [eT]
      show cn C = cn S + 8
      rw [c8, eB, eA]
      rfl
    · rw [eT]
      show cz C = cz S + 577
      rw [c9, eB, eA]
      rfl
theorem sb_new (hw : wfS S) : ∃ S' v', F_sb_init (nxt S) (grow S (0, 7) (fTN 7).2.1) (zero v (nxt S)) = some (S', v') ∧ BXN S' v' (nxt S) ∧ mkG (fun _ _ => False) (nxt S) 2 20 S v S' v' := by
  obtain ⟨b, hb⟩ : ∃ b, b = nxt S := ⟨_, rfl⟩
  obtain ⟨A, eA⟩ : ∃ A, A = grow S (0, 7) (fTN 7).2.1 := ⟨_, rfl⟩
  have nA : nxt A = b + 1 := by rw [eA, nxt_grow, hb]
  have kA : ∀ y, kin A y = if y = b then some (0, 7) else kin S y := fun y => by rw [eA, kin_grow, ← hb]
  have gA : ∀ y j, gr A y j = if y = b then none else gr S y j := fun y j => by rw [eA, gr_grow, ← hb]
  obtain ⟨B, eB⟩ : ∃ B, B = sr (grow A (2, 16) 16) b 0 (some (b + 1)) := ⟨_, rfl⟩
  have nB : nxt B = b + 2 := by rw [eB, nxt_sr, nxt_grow, nA]
  have kB : ∀ y, kin B y = if y = b + 1 then some (2, 16) else kin A y := fun y => by rw [eB, kin_sr, kin_grow, nA]
  have gB : ∀ y j, gr B y j = if y = b ∧ j = 0 then some (b + 1) else if y = b + 1 then none else gr A y j := fun y j => by rw [eB, gr_sr, gr_grow, nA]
  obtain ⟨u, eu⟩ : ∃ u, u = zero (zero v b) (b + 1) := ⟨_, rfl⟩
  have ru : rw u b = fun _ => 0 := by rw [eu, rw_zero (by omega), rw_zero0]
  refine ⟨B, wr u b (up (rw u b) 1 (J 0)), ?_, ?_, ?_⟩
  · rw [← eA, ← hb]
    unfold F_sb_init F_ab_init
    rw [show Int32.toNatClampNeg (J 16) = 16 by decide, grd_true _ (by decide), grd_true _ (by decide), nA, grd_true _ (show kin A (b + 1) = none by rw [kA, if_neg (by omega)]; exact hw _ (by omega)), lt3_def]
    rw [grd_true _ (show kin (grow A (2, 16) 16) b = some (0, 7) by rw [kin_grow, if_neg (by omega), kA, if_pos rfl]), lt_def]
    rw [← eB, lt_def, si_wr, ← eu]
    rfl
  · rw [← hb]
    refine ⟨⟨by rw [kB, if_neg (by omega), kA, if_pos rfl], by rw [gB, if_pos ⟨rfl, rfl⟩], by rw [kB, if_pos rfl]⟩, fun j => ?_, fun j => ?_⟩
    · rw [rw_wr, ru]
      by_cases z : j = 1
      · rw [z, up_same]
        rfl
      · rw [up_ne z]
    · rw [rw_wr_ne (by omega), eu, rw_zero0]
  · rw [← hb]
    refine ⟨fun y hy => ⟨?_, ?_, ?_⟩, fun y j hy _ => ?_, by rw [eB, eA]; rfl, by rw [eB, eA]; rfl, by rw [eB, eA]; rfl, by rw [eB, eA]; rfl, fun y hy => ?_⟩
    · rw [kB, if_neg (by omega), kA, if_neg (by omega)]
    · rw [rw_wr_ne (by omega), eu, rw_zero (by omega), rw_zero (by omega)]
    · show u.2 y = v.2 y
      rw [eu, zero2 (by omega), zero2 (by omega)]
    · rw [gB, if_neg (by omega), if_neg (by omega), gA, if_neg (by omega)]
    · rw [nB] at hy
      rw [kB, if_neg (by omega), kA, if_neg (by omega)]
      exact hw y (by omega)
end INITS
