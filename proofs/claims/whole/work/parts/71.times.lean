/-! Times of edges and of clock edges; how unsteady the clock is. -/
section TIMES
variable {S : shp} {m N : Nat}
/-- the model comes back with an answer -/
def BK (m : Nat) (v : vl) (x : Int) (F : Option (Int32 × vl)) : Prop := ∃ f R, F = some (J x, wr (wr v m f) (m + 1) (cpR (rw v (m + 3)) R 0 0 199)) ∧ eqX (rw v m) f
theorem BK_wr {v : vl} {x : Int} {f R : Nat → Int32} {F : Option (Int32 × vl)} (hf : eqX (rw v m) f) (h : BK m (wr (wr v m f) (m + 1) R) x F) : BK m v x F := by
  obtain ⟨f', R', h1, h2⟩ := h
  have ne1 : m + 1 ≠ m := by omega
  refine ⟨f', R', ?_, ?_⟩
  · rw [h1, rw_wr_ne (by omega), rw_wr_ne (by omega), wr_comm ne1, wr_wr, wr_wr]
  · rw [rw_wr_ne ne1.symm, rw_wr] at h2
    exact eqX_tr hf h2
theorem BK_wr1 {v : vl} {x : Int} {R : Nat → Int32} {F : Option (Int32 × vl)} (h : BK m (wr v (m + 1) R) x F) : BK m v x F := by
  refine BK_wr (f := rw v m) (R := R) (eqX_refl _) ?_
  rw [wr_self]
  exact h
theorem BK_back {v : vl} {x : Int} (hN : 7000000 ≤ N) (hl : mdL S m) : BK m v x (F_gm_back N m (J x) S v) :=
  ⟨rw v m, rw v (m + 1), by rw [gm_back (by omega) hl, wr_self], eqX_refl _⟩
theorem BK_bind {v : vl} {x : Int} {F : Option (Int32 × vl)} (h : BK m v x F) : BK m v x (F.bind fun (a, w) => some (a, w)) := by
  obtain ⟨f, R, h1, h2⟩ := h
  exact ⟨f, R, by rw [h1]; rfl, h2⟩
theorem BK_mq {v : vl} {x : Int} {F : Option (Int32 × vl)} (h : BK m (wr v (m + 3) (cpR (rw v (m + 1)) (rw v (m + 3)) 0 0 199)) x F) : ∃ v', F = some (J x, v') ∧ mq m v v' := by
  obtain ⟨f, R, h1, h2⟩ := h
  have ne1 : m + 1 ≠ m := by omega
  rw [rw_wr_ne (by omega)] at h2
  refine ⟨_, h1, rfl, fun a h0 h1 h3 => ?_, ?_, fun k hk => ?_⟩
  · rw [rw_wr_ne h1, rw_wr_ne h0, rw_wr_ne h3]
  · rw [rw_wr_ne ne1.symm, rw_wr]
    exact h2
  · rw [rw_wr, cpR_lt hk, rw_wr, cpR_lt hk]
theorem gm_toeEnd {v : vl} {X : Nat → Int} {T k : Int} {c g : Nat → Int} (hN : 7000000 ≤ N) (hl : mdL S m) (hw : rw v (m + 1) = iz (mk X T c g)) (hI : mdI X T c g) (hk : 0 ≤ k ∧ k ≤ 1000) : BK m v (if k = 0 then T else -1) (K_gm_timeOfEdge_56 N S v m (J (g 2 + k))) := by
  have b2 := (mdI_sgB hI).2.2.1
  have r14 : rw v (m + 1) 14 = J (g 2) := by rw [hw]; rfl
  have r0 : rw v (m + 1) 0 = J T := by rw [hw]; rfl
  have e : (J (g 2) = J (g 2 + k)) ↔ k = 0 := by rw [J_eq (by omega) (by omega)]; omega
  unfold K_gm_timeOfEdge_56
  rw [grd_true _ hl.1, hl.2.1]
  simp only [Option.bind_some]
  rw [grd_true _ hl.2.2.1, gi_rw, gi_rw, r14, r0]
  by_cases z : k = 0
  · rw [if_pos (e.mpr z), if_pos z]
    exact BK_bind (BK_back hN hl)
  · rw [if_neg (fun y => z (e.mp y)), if_neg z]
    exact BK_bind (BK_back hN hl)
theorem gm_toeLoop {X : Nat → Int} (hN : 7000000 ≤ N) (hl : mdL S m) : ∀ (n : Nat) (v : vl) (T k : Int) (x : Int32) (c g : Nat → Int), rw v (m + 1) = iz (mk X T c g) → mdI X T c g → 1 ≤ k → k ≤ 1000 → ¬ x = J 0 → 6000003 - keS (mt X) g < n → 6000003 - (3 * c 4 + 1) < n →
    BK m v (eT (mt X) (mp X) k g) (K_gm_timeOfEdge_31 N (n + 2) S v m (J (g 2 + k)) x)
  | n, v, T, k, x, c, g, hw, hI, hk, hk2, hx, h1, h2 => by
    have b2 := (mdI_sgB hI).2.2.1
    obtain ⟨⟨u, hJ, q0, q1⟩, hcI, -⟩ := id hI
    have r14 : rw v (m + 1) 14 = J (g 2) := by rw [hw]; rfl
    have lt1 : J (g 2) < J (g 2 + k) := (J_lt (by omega) (by omega)).mpr (by omega)
    show BK m v _ (Y_gm_timeOfEdge_31 N (K_gm_timeOfEdge_31 N (n + 1) S) S v m (J (g 2 + k)) x)
    unfold Y_gm_timeOfEdge_31
    rw [grd_true _ hl.1, hl.2.1]
    simp only [Option.bind_some]
    rw [grd_true _ hl.2.2.1, gi_rw, r14, if_pos lt1, if_neg hx]
    rcases three (t := mt X) (g := g) (L := 2000000) (z := c 4) with ⟨r1, r2⟩ | ⟨r1, r2⟩ | ⟨r1, r2⟩
    · rw [gm_comes0 hl hw hI (by decide) r1 r2, eT_0 (by omega)]
      show BK m v _ (Y_gm_timeOfEdge_31 N (K_gm_timeOfEdge_31 N n S) S v m (J (g 2 + k)) (J 0))
      unfold Y_gm_timeOfEdge_31
      rw [grd_true _ hl.1, hl.2.1]
      simp only [Option.bind_some]
      rw [grd_true _ hl.2.2.1, gi_rw, r14, if_pos lt1, if_pos trivial]
      have := gm_toeEnd (v := v) (k := k) hN hl hw hI (by omega)
      rw [if_neg (by omega)] at this
      exact this
    · obtain ⟨s1, s2⟩ := mdI_ev hI (show keS (mt X) g ≤ 6300002 by omega)
      rw [gm_comesS hl hw hI (by decide) r1 r2]
      cases n with
      | zero => omega
      | succ n =>
        refine BK_wr1 (R := iz (mk X (evT (mt X) g) c (ev1 (mt X) (mp X) g))) ?_
        show BK m _ _ (K_gm_timeOfEdge_31 N (n + 2) S _ m (J (g 2 + k)) (J (evK (mt X) g)))
        rw [eT_1 hJ q0 (show keS (mt X) g ≤ 6000002 by omega)]
        by_cases hs : evS (mt X) g
        · have e2 : ev1 (mt X) (mp X) g 2 = g 2 := by unfold ev1; rw [if_pos hs]; rfl
          rw [if_pos hs, ← e2]
          exact gm_toeLoop hN hl n _ _ k _ c _ rw_wr s1 hk hk2 (evK_ne _ _).1 (by omega) (by omega)
        · have e2 : ev1 (mt X) (mp X) g 2 = g 2 + 1 := by unfold ev1; rw [if_neg hs]; rfl
          rw [if_neg hs]
          by_cases k1 : k ≤ 1
          · have hk1 : k = 1 := by omega
            subst hk1
            have eT' : evT (mt X) g = g 1 := by unfold evT; rw [if_neg hs]
            have b2' := (mdI_sgB s1).2.2.1
            rw [if_pos k1, ← e2]
            show BK m _ _ (Y_gm_timeOfEdge_31 N (K_gm_timeOfEdge_31 N (n + 1) S) S _ m (J (ev1 (mt X) (mp X) g 2)) (J (evK (mt X) g)))
            unfold Y_gm_timeOfEdge_31
            rw [grd_true _ hl.1, hl.2.1]
            simp only [Option.bind_some]
            have r14' : rw (wr v (m + 1) (iz (mk X (evT (mt X) g) c (ev1 (mt X) (mp X) g)))) (m + 1) 14 = J (ev1 (mt X) (mp X) g 2) := by rw [rw_wr]; rfl
            rw [grd_true _ hl.2.2.1, gi_rw, r14', if_neg (fun y => by have := (J_lt (by omega) (by omega)).mp y; omega)]
            have := gm_toeEnd (v := wr v (m + 1) (iz (mk X (evT (mt X) g) c (ev1 (mt X) (mp X) g)))) (k := 0) hN hl rw_wr s1 (by decide)
            rw [if_pos rfl, Int.add_zero] at this
            rw [← eT']
            exact this
          · rw [if_neg k1, show g 2 + k = ev1 (mt X) (mp X) g 2 + (k - 1) by omega]
            exact gm_toeLoop hN hl n _ _ (k - 1) _ c _ rw_wr s1 (by omega) (by omega) (evK_ne _ _).1 (by omega) (by omega)
    · rw [gm_comesC hl hw hI (by decide) r1 r2]
      have kk := tkZ_inv hcI
      cases n with
      | zero => omega
      | succ n =>
        refine BK_wr1 (R := iz (mk X (c 4) (tkZ c) g)) ?_
        exact gm_toeLoop hN hl n _ _ k _ (tkZ c) g rw_wr (mdI_ck hI (by omega)) hk hk2 (show ¬ J 2 = J 0 by decide) (by omega) (by omega)
theorem gm_tocEnd {v : vl} {X : Nat → Int} {T k : Int} {c g : Nat → Int} (hN : 7000000 ≤ N) (hl : mdL S m) (hw : rw v (m + 1) = iz (mk X T c g)) (hI : mdI X T c g) (hk : 0 ≤ k ∧ k ≤ 1000) : BK m v (if k = 0 then T else -1) (K_gm_timeOfClock_56 N S v m (J (c 5 + k))) := by
  have b2 : 0 ≤ c 5 ∧ c 5 ≤ 300000 := by have := hI.2.1.2.2.2.2; have := hI.2.2.1; omega
  have r14 : rw v (m + 1) 11 = J (c 5) := by rw [hw]; rfl
  have r0 : rw v (m + 1) 0 = J T := by rw [hw]; rfl
  have e : (J (c 5) = J (c 5 + k)) ↔ k = 0 := by rw [J_eq (by omega) (by omega)]; omega
  unfold K_gm_timeOfClock_56
  rw [grd_true _ hl.1, hl.2.1]
  simp only [Option.bind_some]
  rw [grd_true _ hl.2.2.1, gi_rw, gi_rw, r14, r0]
  by_cases z : k = 0
  · rw [if_pos (e.mpr z), if_pos z]
    exact BK_bind (BK_back hN hl)
  · rw [if_neg (fun y => z (e.mp y)), if_neg z]
    exact BK_bind (BK_back hN hl)
/-- the time of a clock edge, NONE beyond the end -/
def ceZ (c : Nat → Int) (k : Nat) : Int := if (tkN k c) 4 ≤ 2000000 then (tkN k c) 4 else -1
theorem gm_tocLoop {X : Nat → Int} (hN : 7000000 ≤ N) (hl : mdL S m) : ∀ (n : Nat) (v : vl) (T : Int) (k : Nat) (x : Int32) (c g : Nat → Int), rw v (m + 1) = iz (mk X T c g) → mdI X T c g → k + 1 ≤ 1000 → ¬ x = J 0 → 6000003 - keS (mt X) g < n → 6000003 - (3 * c 4 + 1) < n →
    BK m v (ceZ c k) (K_gm_timeOfClock_31 N (n + 2) S v m (J (c 5 + ((k + 1 : Nat) : Int))) x)
  | n, v, T, k, x, c, g, hw, hI, hk2, hx, h1, h2 => by
    have b2 : 0 ≤ c 5 ∧ c 5 ≤ 300000 := by have := hI.2.1.2.2.2.2; have := hI.2.2.1; omega
    obtain ⟨⟨u, hJ, q0, q1⟩, hcI, -⟩ := id hI
    have r14 : rw v (m + 1) 11 = J (c 5) := by rw [hw]; rfl
    have lt1 : J (c 5) < J (c 5 + ((k + 1 : Nat) : Int)) := (J_lt (by omega) (by omega)).mpr (by omega)
    show BK m v _ (Y_gm_timeOfClock_31 N (K_gm_timeOfClock_31 N (n + 1) S) S v m (J (c 5 + ((k + 1 : Nat) : Int))) x)
    unfold Y_gm_timeOfClock_31
    rw [grd_true _ hl.1, hl.2.1]
    simp only [Option.bind_some]
    rw [grd_true _ hl.2.2.1, gi_rw, r14, if_pos lt1, if_neg hx]
    have hmono := tkN_mono hcI (show 0 ≤ k by omega)
    have c0 : (tkN 0 c) 4 = c 4 := rfl
    rcases three (t := mt X) (g := g) (L := 2000000) (z := c 4) with ⟨r1, r2⟩ | ⟨r1, r2⟩ | ⟨r1, r2⟩
    · have e0 : ceZ c k = -1 := by unfold ceZ; rw [if_neg (by omega)]
      rw [gm_comes0 hl hw hI (by decide) r1 r2, e0]
      show BK m v _ (Y_gm_timeOfClock_31 N (K_gm_timeOfClock_31 N n S) S v m (J (c 5 + ((k + 1 : Nat) : Int))) (J 0))
      unfold Y_gm_timeOfClock_31
      rw [grd_true _ hl.1, hl.2.1]
      simp only [Option.bind_some]
      rw [grd_true _ hl.2.2.1, gi_rw, r14, if_pos lt1, if_pos trivial]
      have := gm_tocEnd (v := v) (k := ((k + 1 : Nat) : Int)) hN hl hw hI (by omega)
      rw [if_neg (by omega)] at this
      exact this
    · obtain ⟨s1, s2⟩ := mdI_ev hI (show keS (mt X) g ≤ 6300002 by omega)
      rw [gm_comesS hl hw hI (by decide) r1 r2]
      cases n with
      | zero => omega
      | succ n =>
        refine BK_wr1 (R := iz (mk X (evT (mt X) g) c (ev1 (mt X) (mp X) g))) ?_
        exact gm_tocLoop hN hl n _ _ k _ c _ rw_wr s1 hk2 (evK_ne _ _).1 (by omega) (by omega)
    · rw [gm_comesC hl hw hI (by decide) r1 r2]
      have kk := tkZ_inv hcI
      cases n with
      | zero => omega
      | succ n =>
        have s1 := mdI_ck hI (show c 4 ≤ 2100000 by omega)
        have e5 : tkZ c 5 = c 5 + 1 := rfl
        refine BK_wr1 (R := iz (mk X (c 4) (tkZ c) g)) ?_
        cases k with
        | zero =>
          have e0 : ceZ c 0 = c 4 := by unfold ceZ; rw [if_pos (by omega)]; rfl
          rw [e0, show c 5 + ((0 + 1 : Nat) : Int) = tkZ c 5 by omega]
          show BK m _ _ (Y_gm_timeOfClock_31 N (K_gm_timeOfClock_31 N (n + 1) S) S _ m (J (tkZ c 5)) (J 2))
          unfold Y_gm_timeOfClock_31
          rw [grd_true _ hl.1, hl.2.1]
          simp only [Option.bind_some]
          have r14' : rw (wr v (m + 1) (iz (mk X (c 4) (tkZ c) g))) (m + 1) 11 = J (tkZ c 5) := by rw [rw_wr]; rfl
          rw [grd_true _ hl.2.2.1, gi_rw, r14', if_neg (fun y => by have := (J_lt (by omega) (by omega)).mp y; omega)]
          have := gm_tocEnd (v := wr v (m + 1) (iz (mk X (c 4) (tkZ c) g))) (k := 0) hN hl rw_wr s1 (by decide)
          rw [if_pos rfl, Int.add_zero] at this
          exact this
        | succ k =>
          have e0 : ceZ c (k + 1) = ceZ (tkZ c) k := by
            have : tkN (k + 1) c = tkN k (tkZ c) := by rw [show k + 1 = 1 + k by omega, tkN_add]; rfl
            unfold ceZ
            rw [this]
          rw [e0, show c 5 + ((k + 1 + 1 : Nat) : Int) = tkZ c 5 + ((k + 1 : Nat) : Int) by omega]
          exact gm_tocLoop hN hl n _ _ k _ (tkZ c) g rw_wr s1 (by omega) (show ¬ J 2 = J 0 by decide) (by omega) (by omega)
variable {v : vl} {h c g t p : Nat → Int} {M : Nat → Nat → Int} {sv : Option sta} {ps : List sta} {re ca ch : Int}
theorem gm_noNumber {n : Int} (hl : mdL S m) (hn : -2147483648 ≤ n ∧ n < 2147483648) : F_gm_noNumber m (J n) S v = some (if 1 ≤ n ∧ n ≤ 1000 then (J 0, v) else (J 1, th v m 1)) := by
  have n1 : ¬ J 1 = J 0 := by decide
  unfold F_gm_noNumber
  rw [gm_inRange hn (by decide) (by decide)]
  simp only [Option.bind_some]
  by_cases z : 1 ≤ n ∧ n ≤ 1000
  · rw [if_pos z, if_neg n1, if_pos z, grd_true _ hl.1, gm_fails0]
    simp only [Option.bind_some]
    rw [grd_true _ (by decide)]
  · rw [if_neg z, if_pos rfl, if_neg z, grd_true _ hl.1, gm_fails1 hl]
    simp only [Option.bind_some]
    rw [grd_true _ (by decide)]
/-- the model's row as it thinks -/
theorem thinkX (hR : rowM (rw v (m + 1)) h c g t p M) (hV : stV h c g t p M) : ∃ X, rw (wr v (m + 3) (cpR (rw v (m + 1)) (rw v (m + 3)) 0 0 199)) (m + 1) = iz (mk X (h 0) c g) ∧ X 5 = h 1 ∧ X 6 = h 2 ∧ X 7 = h 3 ∧ (∀ i : Nat, (i : Int) < g 8 → t i = mt X i ∧ p i = mp X i) ∧ mdI X (h 0) c g := by
  have eR : rw (wr v (m + 3) (cpR (rw v (m + 1)) (rw v (m + 3)) 0 0 199)) (m + 1) = rw v (m + 1) := rw_wr_ne (by omega)
  obtain ⟨X, x0, x5, x6, x7, hag, hI, -⟩ := rowM_X (R := rw (wr v (m + 3) (cpR (rw v (m + 1)) (rw v (m + 3)) 0 0 199)) (m + 1)) (by rw [eR]; exact hR) hV
  exact ⟨X, x0, x5, x6, x7, hag, hI⟩
theorem gm_timeOfEdge {n : Int} (hN : 7000000 ≤ N) (hR : dR S v m (h, c, g, t, p, M) sv ps re ca ch) (hV : stV h c g t p M) (hn : -2147483648 ≤ n ∧ n < 2147483648) :
    QM (F_gm_timeOfEdge N m (J n) S v) (numO n (eT t p n g)) (fun v' => mqt m v v' (oThr (numO n (eT t p n g)))) := by
  obtain ⟨hl, h1, -⟩ := hR
  have n1 : ¬ J 1 = J 0 := by decide
  have h9 := (stV_8 hV).1
  unfold F_gm_timeOfEdge
  rw [grd_true _ hl.1]
  simp only [lt_def, si_th]
  rw [gm_noNumber hl hn]
  unfold numO
  by_cases z : 1 ≤ n ∧ n ≤ 1000
  · rw [if_pos z, if_pos z]
    simp only [Option.bind_some, if_true]
    rw [gm_thinks (by omega) hl]
    simp only [Option.bind_some, hl.2.1, hl.2.2.1, grd_pos, gi_x]
    obtain ⟨X, x0, x5, x6, x7, hag, hI⟩ := thinkX (v := th v m 0) (m := m) (th_rowM h1) hV
    have r14 : rw (wr (th v m 0) (m + 3) (cpR (rw (th v m 0) (m + 1)) (rw (th v m 0) (m + 3)) 0 0 199)) (m + 1) 14 = J (g 2) := by rw [x0]; rfl
    have k0 : 0 ≤ keS (mt X) g := keS_nn hI
    have k4 : 0 ≤ c 4 := hI.2.1.2.2.2.2.1
    obtain ⟨f, hf⟩ : ∃ f, N = f + 2 := ⟨N - 2, by omega⟩
    have := gm_toeLoop (N := N) hN hl f _ _ n (J 1) c g x0 hI z.1 z.2 n1 (by omega) (by omega)
    rw [eT_congr h9 hag, r14, ← J_add]
    rw [← hf] at this
    obtain ⟨v', e1, e2⟩ := BK_mq this
    exact ⟨v', e1, mqt_mq e2⟩
  · rw [if_neg z, if_neg z]
    simp only [Option.bind_some, n1, if_false]
    rw [th_th]
    exact ⟨_, rfl, mqt_th⟩
theorem gm_timeOfClock {n : Int} (hN : 7000000 ≤ N) (hR : dR S v m (h, c, g, t, p, M) sv ps re ca ch) (hV : stV h c g t p M) (hn : -2147483648 ≤ n ∧ n < 2147483648) :
    QM (F_gm_timeOfClock N m (J n) S v) (numO n (tcZ c n)) (fun v' => mqt m v v' (oThr (numO n (tcZ c n)))) := by
  obtain ⟨hl, h1, -⟩ := hR
  have n1 : ¬ J 1 = J 0 := by decide
  unfold F_gm_timeOfClock
  rw [grd_true _ hl.1]
  simp only [lt_def, si_th]
  rw [gm_noNumber hl hn]
  unfold numO
  by_cases z : 1 ≤ n ∧ n ≤ 1000
  · rw [if_pos z, if_pos z]
    simp only [Option.bind_some, if_true]
    rw [gm_thinks (by omega) hl]
    simp only [Option.bind_some, hl.2.1, hl.2.2.1, grd_pos, gi_x]
    obtain ⟨X, x0, x5, x6, x7, hag, hI⟩ := thinkX (v := th v m 0) (m := m) (th_rowM h1) hV
    have r14 : rw (wr (th v m 0) (m + 3) (cpR (rw (th v m 0) (m + 1)) (rw (th v m 0) (m + 3)) 0 0 199)) (m + 1) 11 = J (c 5) := by rw [x0]; rfl
    have k0 : 0 ≤ keS (mt X) g := keS_nn hI
    have k4 : 0 ≤ c 4 := hI.2.1.2.2.2.2.1
    obtain ⟨f, hf⟩ : ∃ f, N = f + 2 := ⟨N - 2, by omega⟩
    have := gm_tocLoop (N := N) hN hl f _ _ (n - 1).toNat (J 1) c g x0 hI (by omega) n1 (by omega) (by omega)
    rw [show (((n - 1).toNat + 1 : Nat) : Int) = n by omega] at this
    rw [r14, ← J_add]
    rw [← hf] at this
    obtain ⟨v', e1, e2⟩ := BK_mq this
    exact ⟨v', e1, mqt_mq e2⟩
  · rw [if_neg z, if_neg z]
    simp only [Option.bind_some, n1, if_false]
    rw [th_th]
    exact ⟨_, rfl, mqt_th⟩
end TIMES
