/-! The model's ways through what comes. -/
section LOOPS
theorem J_inj {x y : Int} (hx : -2147483648 ≤ x ∧ x < 2147483648) (hy : -2147483648 ≤ y ∧ y < 2147483648) : J x = J y ↔ x = y := by
  rw [i_eq, J_toInt hx.1 hx.2, J_toInt hy.1 hy.2]
theorem evK_ne (t g : Nat → Int) : ¬ J (evK t g) = J 0 ∧ ¬ J (evK t g) = J 2 := by
  unfold evK
  split
  · exact ⟨by decide, by decide⟩
  · split <;> exact ⟨by decide, by decide⟩
theorem three {t g : Nat → Int} {L z : Int} : (3 * L + 2 < keS t g ∧ L < z) ∨ (keS t g ≤ 3 * L + 2 ∧ keS t g < 3 * z + 1) ∨ (3 * z + 1 < keS t g ∧ z ≤ L) := by
  have := keS_mod t g
  omega
theorem mdI_end {X : Nat → Int} {T T' : Int} {c g : Nat → Int} (h : mdI X T c g) (hT : 0 ≤ T' ∧ T' ≤ 2100000) : mdI X T' c g := by
  obtain ⟨h0, h1, h2, hX, -, h6⟩ := h
  exact ⟨h0, h1, h2, hX, hT, h6⟩
theorem mk_T {X : Nat → Int} {T T' : Int} {c g : Nat → Int} : up (iz (mk X T c g)) 0 (J T') = iz (mk X T' c g) := by
  funext k
  unfold up iz
  match k with
  | 0 => rfl
  | 1 => rfl
  | 2 => rfl
  | 3 => rfl
  | 4 => rfl
  | 5 => rfl
  | 6 => rfl
  | 7 => rfl
  | 8 => rfl
  | 9 => rfl
  | 10 => rfl
  | 11 => rfl
  | 12 => rfl
  | 13 => rfl
  | 14 => rfl
  | 15 => rfl
  | 16 => rfl
  | 17 => rfl
  | 18 => rfl
  | 19 => rfl
  | 20 => rfl
  | j + 21 => rfl
theorem sgK_ev' {X : Nat → Int} {T K : Int} {c g : Nat → Int} (h : mdI X T c g) (hK2 : K ≤ 6300002) (hK : keS (mt X) g ≤ K) : sgK (mt X) (mp X) K (ev1 (mt X) (mp X) g) = sgK (mt X) (mp X) K g := by
  obtain ⟨⟨u, hJ, q0, q1⟩, -⟩ := h
  exact (sgK_ev hJ q0 hK2 hK).symm
theorem gm_goes {S : shp} {m N : Nat} {X : Nat → Int} {L : Int} (hl : mdL S m) (hL : 0 ≤ L ∧ L ≤ 2100000) : ∀ (n : Nat) (v : vl) (T : Int) (c g : Nat → Int), rw v (m + 1) = iz (mk X T c g) → mdI X T c g → 3 * L + 3 - keS (mt X) g < n → 3 * L + 3 - (3 * c 4 + 1) < n →
    (F_gm_comes m (J L) S v).bind (fun (x, w) => K_gm_goesTo_6 N (n + 1) S w m (J L) x) = some (wr v (m + 1) (iz (mk X L (ckK L c) (sgK (mt X) (mp X) (3 * L + 2) g))))
  | n, v, T, c, g, hw, hI, h1, h2 => by
    rcases three (t := mt X) (g := g) (L := L) (z := c 4) with ⟨q1, q2⟩ | ⟨q1, q2⟩ | ⟨q1, q2⟩
    · rw [gm_comes0 hl hw hI hL q1 q2]
      show Y_gm_goesTo_6 N (K_gm_goesTo_6 N n S) S v m (J L) (J 0) = _
      unfold Y_gm_goesTo_6
      rw [if_pos rfl, grd_true _ hl.1, hl.2.1]
      simp only [Option.bind_some]
      rw [grd_true _ hl.2.2.1]
      simp only [lt_def, si_wr]
      rw [hw, mk_T, ckK_0 q2, sgK_0 q1]
    · cases n with
      | zero => omega
      | succ n =>
        rw [gm_comesS hl hw hI hL q1 q2]
        show Y_gm_goesTo_6 N (K_gm_goesTo_6 N (n + 1) S) S _ m (J L) (J (evK (mt X) g)) = _
        unfold Y_gm_goesTo_6
        obtain ⟨r1, r2⟩ := mdI_ev hI (show keS (mt X) g ≤ 6300002 by omega)
        rw [if_neg (evK_ne _ _).1, grd_true _ hl.1]
        have := gm_goes (N := N) hl hL n (wr v (m + 1) (iz (mk X (evT (mt X) g) c (ev1 (mt X) (mp X) g)))) _ _ _ rw_wr r1 (by omega) (by omega)
        rw [wr_wr, sgK_ev' hI (by omega) q1] at this
        exact this
    · cases n with
      | zero => omega
      | succ n =>
        rw [gm_comesC hl hw hI hL q1 q2]
        show Y_gm_goesTo_6 N (K_gm_goesTo_6 N (n + 1) S) S _ m (J L) (J 2) = _
        unfold Y_gm_goesTo_6
        have k := tkZ_inv hI.2.1
        rw [if_neg (by decide), grd_true _ hl.1]
        have := gm_goes (N := N) hl hL n (wr v (m + 1) (iz (mk X (c 4) (tkZ c) g))) _ _ _ rw_wr (mdI_ck hI (by omega)) (by omega) (by omega)
        rw [wr_wr, ← ckK_1 hI.2.1 q2] at this
        exact this
theorem gm_goesTo {S : shp} {v : vl} {m N : Nat} {X : Nat → Int} {T L : Int} {c g : Nat → Int} (hN : 7000000 ≤ N) (hl : mdL S m) (hw : rw v (m + 1) = iz (mk X T c g)) (hI : mdI X T c g) (hL : 0 ≤ L ∧ L ≤ 2100000) :
    F_gm_goesTo N m (J L) S v = some (wr v (m + 1) (iz (mk X L (ckK L c) (sgK (mt X) (mp X) (3 * L + 2) g)))) := by
  obtain ⟨n, rfl⟩ : ∃ n, N = n + 1 := ⟨N - 1, by omega⟩
  unfold F_gm_goesTo
  rw [grd_true _ hl.1]
  have h0 : 0 ≤ keS (mt X) g := by
    obtain ⟨⟨u, hJ, q0, q1⟩, -⟩ := id hI
    have d := hJ.2.2.2
    have b9 := hJ.2.1
    unfold keS
    split
    · rename_i q
      have := d (g 9).toNat (by omega) (by have := q.1; omega)
      omega
    · have := (sgI_B hJ.1 ⟨q0, q1⟩).2.1
      split <;> omega
  have h4 := hI.2.1.2.2.2.2.1
  exact gm_goes (N := n + 1) hl hL n v T c g hw hI (by omega) (by omega)
theorem keS_nn {X : Nat → Int} {T : Int} {c g : Nat → Int} (hI : mdI X T c g) : 0 ≤ keS (mt X) g := by
  obtain ⟨⟨u, hJ, q0, q1⟩, -⟩ := id hI
  have d := hJ.2.2.2
  have b9 := hJ.2.1
  unfold keS
  split
  · rename_i q
    have := d (g 9).toNat (by omega) (by have := q.1; omega)
    omega
  · have := (sgI_B hJ.1 ⟨q0, q1⟩).2.1
    split <;> omega
/-- up to the next clock edge -/
theorem gm_waitsC {S : shp} {m N : Nat} {X : Nat → Int} {c : Nat → Int} (hl : mdL S m) (hc : c 4 ≤ 2000000) : ∀ (n : Nat) (v : vl) (T : Int) (g : Nat → Int), rw v (m + 1) = iz (mk X T c g) → mdI X T c g → 6000003 - keS (mt X) g < n →
    (F_gm_comes m (J 2000000) S v).bind (fun (x, w) => K_gm_waitsFor_7 N (n + 1) S w m (J 2) x) = some (J 1, wr v (m + 1) (iz (mk X (c 4) (tkZ c) (sgK (mt X) (mp X) (3 * c 4) g))))
  | n, v, T, g, hw, hI, h1 => by
    rcases three (t := mt X) (g := g) (L := 2000000) (z := c 4) with ⟨q1, q2⟩ | ⟨q1, q2⟩ | ⟨q1, q2⟩
    · omega
    · cases n with
      | zero => omega
      | succ n =>
        rw [gm_comesS hl hw hI (by decide) q1 q2]
        show Y_gm_waitsFor_7 N (K_gm_waitsFor_7 N (n + 1) S) S _ m (J 2) (J (evK (mt X) g)) = _
        unfold Y_gm_waitsFor_7
        obtain ⟨r1, r2⟩ := mdI_ev hI (show keS (mt X) g ≤ 6300002 by omega)
        rw [if_neg (evK_ne _ _).2, if_neg (evK_ne _ _).1, grd_true _ hl.1]
        have := gm_waitsC (N := N) hl hc n (wr v (m + 1) (iz (mk X (evT (mt X) g) c (ev1 (mt X) (mp X) g)))) _ _ rw_wr r1 (by omega)
        rw [wr_wr, sgK_ev' hI (by omega) (by omega)] at this
        exact this
    · rw [gm_comesC hl hw hI (by decide) q1 q2]
      show Y_gm_waitsFor_7 N (K_gm_waitsFor_7 N n S) S _ m (J 2) (J 2) = _
      unfold Y_gm_waitsFor_7
      rw [if_pos rfl, if_pos rfl, sgK_0 (by omega)]
/-- none comes -/
theorem gm_waitsC0 {S : shp} {m N : Nat} {X : Nat → Int} {c : Nat → Int} (hl : mdL S m) (hc : 2000000 < c 4) : ∀ (n : Nat) (v : vl) (T : Int) (g : Nat → Int), rw v (m + 1) = iz (mk X T c g) → mdI X T c g → 6000003 - keS (mt X) g < n →
    ∃ T', (F_gm_comes m (J 2000000) S v).bind (fun (x, w) => K_gm_waitsFor_7 N (n + 1) S w m (J 2) x) = some (J 0, wr v (m + 1) (iz (mk X T' c (sgK (mt X) (mp X) 6000002 g)))) ∧ 0 ≤ T' ∧ T' ≤ 2100000
  | n, v, T, g, hw, hI, h1 => by
    rcases three (t := mt X) (g := g) (L := 2000000) (z := c 4) with ⟨q1, q2⟩ | ⟨q1, q2⟩ | ⟨q1, q2⟩
    · refine ⟨T, ?_, hI.2.2.2.2.1⟩
      rw [gm_comes0 hl hw hI (by decide) q1 q2]
      show Y_gm_waitsFor_7 N (K_gm_waitsFor_7 N n S) S _ m (J 2) (J 0) = _
      unfold Y_gm_waitsFor_7
      rw [if_neg (by decide), if_pos rfl, if_neg (by decide), sgK_0 (show (6000002 : Int) < keS (mt X) g by omega), ← hw, wr_self]
    · cases n with
      | zero => omega
      | succ n =>
        obtain ⟨r1, r2⟩ := mdI_ev hI (show keS (mt X) g ≤ 6300002 by omega)
        obtain ⟨T', this, hT⟩ := gm_waitsC0 (N := N) hl hc n (wr v (m + 1) (iz (mk X (evT (mt X) g) c (ev1 (mt X) (mp X) g)))) _ _ rw_wr r1 (by omega)
        refine ⟨T', ?_, hT⟩
        rw [gm_comesS hl hw hI (by decide) q1 q2]
        show Y_gm_waitsFor_7 N (K_gm_waitsFor_7 N (n + 1) S) S _ m (J 2) (J (evK (mt X) g)) = _
        unfold Y_gm_waitsFor_7
        rw [if_neg (evK_ne _ _).2, if_neg (evK_ne _ _).1, grd_true _ hl.1]
        rw [wr_wr, sgK_ev' hI (by omega) (by omega)] at this
        exact this
    · omega
theorem gm_waitsForC {S : shp} {v : vl} {m N : Nat} {X : Nat → Int} {T : Int} {c g : Nat → Int} (hN : 7000000 ≤ N) (hl : mdL S m) (hw : rw v (m + 1) = iz (mk X T c g)) (hI : mdI X T c g) :
    (c 4 ≤ 2000000 → F_gm_waitsFor N m (J 2) S v = some (J 1, wr v (m + 1) (iz (mk X (c 4) (tkZ c) (sgK (mt X) (mp X) (3 * c 4) g))))) ∧
    (2000000 < c 4 → ∃ T', F_gm_waitsFor N m (J 2) S v = some (J 0, wr v (m + 1) (iz (mk X T' c (sgK (mt X) (mp X) 6000002 g)))) ∧ 0 ≤ T' ∧ T' ≤ 2100000) := by
  obtain ⟨n, rfl⟩ : ∃ n, N = n + 1 := ⟨N - 1, by omega⟩
  have h0 := keS_nn hI
  unfold F_gm_waitsFor
  rw [grd_true _ hl.1]
  exact ⟨fun hc => gm_waitsC (N := n + 1) hl hc n v T g hw hI (by omega), fun hc => gm_waitsC0 (N := n + 1) hl hc n v T g hw hI (by omega)⟩
theorem mdI_sgK {X : Nat → Int} {T K : Int} {c g : Nat → Int} (h : mdI X T c g) (hK : K ≤ 6300002) : mdI X T c (sgK (mt X) (mp X) K g) ∧ g 2 ≤ sgK (mt X) (mp X) K g 2 ∧ g 3 ≤ sgK (mt X) (mp X) K g 3 ∧ sgK (mt X) (mp X) K g 4 = g 4 ∧ sgK (mt X) (mp X) K g 8 = g 8 ∧ sgK (mt X) (mp X) K g 6 = g 6 ∧ sgK (mt X) (mp X) K g 7 = g 7 := by
  obtain ⟨⟨u, hJ, q0, q1⟩, h1, h2, hX, hT, h6, s6, s7⟩ := h
  obtain ⟨k1, u', k2, k3, k4, k5⟩ := sgK_J hJ q0 q1 hK
  have hM := sgK_M hJ q0 q1 hK (fun h => h 6 = g 6 ∧ h 7 = g 7 ∧ g 2 ≤ h 2 ∧ g 3 ≤ h 3 ∧ h 4 = g 4 ∧ h 8 = g 8) ⟨rfl, rfl, Int.le_refl _, Int.le_refl _, rfl, rfl⟩ (fun u h _ _ _ hM _ => by
    obtain ⟨e6, e7, e2, e3, e4, e8⟩ := ev1_67 (mt X) (mp X) h
    refine ⟨by omega, by omega, by omega, by omega, by omega, by omega⟩)
  obtain ⟨e6, e7, e2, e3, e4, e8⟩ := hM
  exact ⟨⟨⟨u', k2, by omega, k5⟩, h1, h2, hX, hT, h6, by omega, by omega⟩, e2, e3, e4, e8, e6, e7⟩
theorem ev1_3 {X : Nat → Int} {T : Int} {c g : Nat → Int} (hI : mdI X T c g) : ev1 (mt X) (mp X) g 3 = g 3 + (if J (evK (mt X) g) = J 4 then 1 else 0) := by
  unfold ev1 evK
  by_cases h : evS (mt X) g
  · rw [if_pos h, if_pos h, if_neg (by decide)]
    show g 3 = g 3 + 0
    omega
  · rw [if_neg h, if_neg h]
    show (if g 5 + 1 < g 4 then g 3 else g 3 + 1) = _
    by_cases h5 : g 5 + 1 < g 4
    · rw [if_pos h5, if_pos h5, if_neg (by decide)]; omega
    · rw [if_neg h5, if_neg h5, if_pos rfl]
/-- the fields of a measurement that is made: ended, count, edges at the end -/
def fdC (f : Nat → Int32) (q T e : Int) : Nat → Int32 := up (up (up f 13 (J q)) 12 (J T)) 15 (J e)
theorem up_up {f : Nat → Int32} {k : Nat} {x y : Int32} : up (up f k x) k y = up f k y := by
  funext j
  unfold up
  split <;> rfl
theorem up_self {f : Nat → Int32} {k : Nat} : up f k (f k) = f := by
  funext j
  unfold up
  split
  · rename_i h; rw [h]
  · rfl
theorem gm_countsC {S : shp} {m N : Nat} {X : Nat → Int} {c : Nat → Int} (hl : mdL S m) (hc : c 4 ≤ 2000000) : ∀ (n : Nat) (v : vl) (T q : Int) (g : Nat → Int), rw v (m + 1) = iz (mk X T c g) → mdI X T c g → 6000003 - keS (mt X) g < n → rw v m 13 = J q → -3000000 ≤ q - g 3 ∧ q - g 3 ≤ 3000000 →
    (F_gm_comes m (J 2000000) S v).bind (fun (x, w) => K_gm_countsTo_7 N (n + 1) S w m (J 2) (J 4) x) = some (J 1, wr (wr v m (fdC (rw v m) (q + (sgK (mt X) (mp X) (3 * c 4) g 3 - g 3)) (c 4) (sgK (mt X) (mp X) (3 * c 4) g 2))) (m + 1) (iz (mk X (c 4) (tkZ c) (sgK (mt X) (mp X) (3 * c 4) g))))
  | n, v, T, q, g, hw, hI, h1, hq, hq2 => by
    have ne1 : m + 1 ≠ m := by omega
    rcases three (t := mt X) (g := g) (L := 2000000) (z := c 4) with ⟨q1, q2⟩ | ⟨q1, q2⟩ | ⟨q1, q2⟩
    · omega
    · cases n with
      | zero => omega
      | succ n =>
        rw [gm_comesS hl hw hI (by decide) q1 q2]
        show Y_gm_countsTo_7 N (K_gm_countsTo_7 N (n + 1) S) S _ m (J 2) (J 4) (J (evK (mt X) g)) = _
        unfold Y_gm_countsTo_7
        obtain ⟨r1, r2⟩ := mdI_ev hI (show keS (mt X) g ≤ 6300002 by omega)
        obtain ⟨-, -, b2, b3, -⟩ := mdI_sgB hI
        have e3 := ev1_3 hI
        have tq : (J q).toInt = q := J_toInt (by omega) (by omega)
        rw [if_neg (evK_ne _ _).2, if_neg (evK_ne _ _).1, grd_true _ hl.1]
        simp only [lt_def, si_wr, gi_x, rw_wr_ne ne1.symm, hq]
        have step : ∀ d : Int, (d = 0 ∨ d = 1) → ev1 (mt X) (mp X) g 3 = g 3 + d → (F_gm_comes m (J 2000000) S (wr (wr v (m + 1) (iz (mk X (evT (mt X) g) c (ev1 (mt X) (mp X) g)))) m (up (rw v m) 13 (J q + J d)))).bind (fun (x, w) => K_gm_countsTo_7 N (n + 1) S w m (J 2) (J 4) x) = some (J 1, wr (wr v m (fdC (rw v m) (q + (sgK (mt X) (mp X) (3 * c 4) g 3 - g 3)) (c 4) (sgK (mt X) (mp X) (3 * c 4) g 2))) (m + 1) (iz (mk X (c 4) (tkZ c) (sgK (mt X) (mp X) (3 * c 4) g)))) := by
          intro d hd hd3
          have jd : J q + J d = J (q + d) := by
            have td : (J d).toInt = d := J_toInt (by omega) (by omega)
            refine i_eq.mpr ?_
            rw [i_add, tq, td, J_toInt (by omega) (by omega)]
            · rw [tq, td]; omega
            · rw [tq, td]; omega
          rw [jd]
          have := gm_countsC (N := N) hl hc n (wr (wr v (m + 1) (iz (mk X (evT (mt X) g) c (ev1 (mt X) (mp X) g)))) m (up (rw v m) 13 (J (q + d)))) _ (q + d) _ (by rw [rw_wr_ne ne1, rw_wr]) r1 (by omega) (by rw [rw_wr, up_same]) (by omega)
          rw [this, sgK_ev' hI (by omega) (by omega), hd3, wr_wr, rw_wr]
          rw [wr_comm ne1, wr_wr]
          unfold fdC
          rw [up_up, show q + d + (sgK (mt X) (mp X) (3 * c 4) g 3 - (g 3 + d)) = q + (sgK (mt X) (mp X) (3 * c 4) g 3 - g 3) by omega]
        by_cases h4 : J (evK (mt X) g) = J 4
        · rw [if_pos h4]
          rw [if_pos h4] at e3
          exact step 1 (Or.inr rfl) e3
        · rw [if_neg h4]
          rw [if_neg h4] at e3
          exact step 0 (Or.inl rfl) e3
    · rw [gm_comesC hl hw hI (by decide) q1 q2]
      show Y_gm_countsTo_7 N (K_gm_countsTo_7 N n S) S _ m (J 2) (J 4) (J 2) = _
      unfold Y_gm_countsTo_7 K_gm_countsTo_45
      rw [if_pos rfl, grd_true _ hl.1, hl.2.1]
      simp only [Option.bind_some]
      rw [grd_true _ hl.2.2.1]
      simp only [lt_def, si_wr, gi_x, rw_wr, wr_wr, rw_wr_ne ne1, rw_wr_ne ne1.symm]
      rw [if_pos trivial, sgK_0 (show 3 * c 4 < _ by omega), wr_comm ne1]
      unfold fdC
      rw [show q + (g 3 - g 3) = q by omega, ← hq, up_self]
      rfl
theorem fd_x {f f' : Nat → Int32} (h : ∀ k, k < 11 ∨ 15 < k → f' k = f k) {k j : Nat} {x : Int32} (hj : 11 ≤ j ∧ j ≤ 15) : ∀ k, k < 11 ∨ 15 < k → up f' j x k = f k := by
  intro k hk
  rw [up_ne (by omega)]
  exact h k hk
theorem gm_countsC0 {S : shp} {m N : Nat} {X : Nat → Int} {c : Nat → Int} (hl : mdL S m) (hc : 2000000 < c 4) : ∀ (n : Nat) (v : vl) (T : Int) (g : Nat → Int), rw v (m + 1) = iz (mk X T c g) → mdI X T c g → 6000003 - keS (mt X) g < n →
    ∃ T' f', (F_gm_comes m (J 2000000) S v).bind (fun (x, w) => K_gm_countsTo_7 N (n + 1) S w m (J 2) (J 4) x) = some (J 0, wr (wr v m f') (m + 1) (iz (mk X T' c (sgK (mt X) (mp X) 6000002 g)))) ∧ (0 ≤ T' ∧ T' ≤ 2100000) ∧ ∀ k, k < 11 ∨ 15 < k → f' k = rw v m k
  | n, v, T, g, hw, hI, h1 => by
    have ne1 : m + 1 ≠ m := by omega
    rcases three (t := mt X) (g := g) (L := 2000000) (z := c 4) with ⟨q1, q2⟩ | ⟨q1, q2⟩ | ⟨q1, q2⟩
    · refine ⟨T, up (up (rw v m) 12 (rw v (m + 1) 0)) 15 (rw v (m + 1) 14), ?_, hI.2.2.2.2.1, fun k hk => by rw [up_ne (by omega), up_ne (by omega)]⟩
      rw [gm_comes0 hl hw hI (by decide) q1 q2]
      show Y_gm_countsTo_7 N (K_gm_countsTo_7 N n S) S _ m (J 2) (J 4) (J 0) = _
      unfold Y_gm_countsTo_7 K_gm_countsTo_45
      rw [if_neg (by decide), if_pos rfl, grd_true _ hl.1, hl.2.1]
      simp only [Option.bind_some]
      rw [grd_true _ hl.2.2.1]
      simp only [lt_def, si_wr, gi_x, rw_wr, wr_wr, rw_wr_ne ne1, rw_wr_ne ne1.symm]
      rw [if_neg (by decide), sgK_0 (show (6000002 : Int) < keS (mt X) g by omega), ← hw]
      refine congrArg (fun z => some (J 0, z)) ?_
      rw [← wr_comm ne1, wr_self]
    · cases n with
      | zero => omega
      | succ n =>
        rw [gm_comesS hl hw hI (by decide) q1 q2]
        obtain ⟨r1, r2⟩ := mdI_ev hI (show keS (mt X) g ≤ 6300002 by omega)
        have step : ∀ f : Nat → Int32, (∀ k, k < 11 ∨ 15 < k → f k = rw v m k) → ∃ T' f', (F_gm_comes m (J 2000000) S (wr (wr v (m + 1) (iz (mk X (evT (mt X) g) c (ev1 (mt X) (mp X) g)))) m f)).bind (fun (x, w) => K_gm_countsTo_7 N (n + 1) S w m (J 2) (J 4) x) = some (J 0, wr (wr v m f') (m + 1) (iz (mk X T' c (sgK (mt X) (mp X) 6000002 g)))) ∧ (0 ≤ T' ∧ T' ≤ 2100000) ∧ ∀ k, k < 11 ∨ 15 < k → f' k = rw v m k := by
          intro f hf
          obtain ⟨T', f', k1, k2, k3⟩ := gm_countsC0 (N := N) hl hc n (wr (wr v (m + 1) (iz (mk X (evT (mt X) g) c (ev1 (mt X) (mp X) g)))) m f) _ _ (by rw [rw_wr_ne ne1, rw_wr]) r1 (by omega)
          refine ⟨T', f', ?_, k2, fun k hk => ?_⟩
          · rw [k1, sgK_ev' hI (by omega) (by omega), wr_wr, wr_comm ne1, wr_wr]
          · rw [k3 k hk, rw_wr]; exact hf k hk
        show ∃ T' f', Y_gm_countsTo_7 N (K_gm_countsTo_7 N (n + 1) S) S _ m (J 2) (J 4) (J (evK (mt X) g)) = _ ∧ _
        unfold Y_gm_countsTo_7
        rw [if_neg (evK_ne _ _).2, if_neg (evK_ne _ _).1, grd_true _ hl.1]
        simp only [lt_def, si_wr, gi_x, rw_wr_ne ne1.symm]
        by_cases h4 : J (evK (mt X) g) = J 4
        · rw [if_pos h4]
          exact step _ (fun k hk => up_ne (by omega))
        · rw [if_neg h4]
          exact step _ (fun k hk => up_ne (by omega))
    · omega
theorem gm_countsToC {S : shp} {v : vl} {m N : Nat} {X : Nat → Int} {T : Int} {c g : Nat → Int} (hN : 7000000 ≤ N) (hl : mdL S m) (hw : rw v (m + 1) = iz (mk X T c g)) (hI : mdI X T c g) :
    (c 4 ≤ 2000000 → ∀ q, rw v m 13 = J q → -3000000 ≤ q - g 3 ∧ q - g 3 ≤ 3000000 → F_gm_countsTo N m (J 2) (J 4) S v = some (J 1, wr (wr v m (fdC (rw v m) (q + (sgK (mt X) (mp X) (3 * c 4) g 3 - g 3)) (c 4) (sgK (mt X) (mp X) (3 * c 4) g 2))) (m + 1) (iz (mk X (c 4) (tkZ c) (sgK (mt X) (mp X) (3 * c 4) g))))) ∧
    (2000000 < c 4 → ∃ T' f', F_gm_countsTo N m (J 2) (J 4) S v = some (J 0, wr (wr v m f') (m + 1) (iz (mk X T' c (sgK (mt X) (mp X) 6000002 g)))) ∧ (0 ≤ T' ∧ T' ≤ 2100000) ∧ ∀ k, k < 11 ∨ 15 < k → f' k = rw v m k) := by
  obtain ⟨n, rfl⟩ : ∃ n, N = n + 1 := ⟨N - 1, by omega⟩
  have h0 := keS_nn hI
  unfold F_gm_countsTo
  rw [grd_true _ hl.1]
  exact ⟨fun hc q hq hq2 => gm_countsC (N := n + 1) hl hc n v T q g hw hI (by omega) hq hq2, fun hc => gm_countsC0 (N := n + 1) hl hc n v T g hw hI (by omega)⟩
end LOOPS
