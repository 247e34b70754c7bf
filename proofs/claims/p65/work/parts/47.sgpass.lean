/-! The class's way through segments and edges. -/
section SGPASS
theorem edE_J {u : Int} {t p g : Nat → Int} (h : sgJ u t p g) (hu : 0 ≤ u) (hu2 : u ≤ 2100000) (hlt : g 9 < g 8) (hr : rB g) : sgJ (t (g 9).toNat) t p (smZ t p (edE (t (g 9).toNat - 1) g)) ∧ edE (t (g 9).toNat - 1) g 9 = g 9 ∧ edE (t (g 9).toNat - 1) g 8 = g 8 ∧ rB (edE (t (g 9).toNat - 1) g) := by
  obtain ⟨hI, b, c, d⟩ := id h
  have e : (((g 9).toNat : Nat) : Int) = g 9 := by omega
  obtain ⟨c1, c2, -⟩ := c (g 9).toNat (by omega)
  have d1 := d (g 9).toNat (by omega) (by omega)
  have hb := egN_rB (T := t (g 9).toNat - 1) hr hI hu hu2 ⟨by omega, by omega⟩
  by_cases q : t (g 9).toNat - 1 ≤ u
  · have e0 := edE_0 hI q
    rw [e0] at hb ⊢
    refine ⟨smZ_J h hu hlt (fun z => ?_) d1, rfl, rfl, hb⟩
    have := hI.2.2.1 z
    omega
  · obtain ⟨k1, k2, k3⟩ := edE_I hI hu (show u ≤ t (g 9).toNat - 1 by omega) (by omega)
    have k9 := k3 9 (by decide) (by decide) (by decide) (by decide)
    have k8 := k3 8 (by decide) (by decide) (by decide) (by decide)
    have hJ : sgJ (t (g 9).toNat - 1) t p (edE (t (g 9).toNat - 1) g) := by
      refine ⟨k1, by rw [k9, k8]; exact b, by rw [k8]; exact c, fun i h1 h2 => ?_⟩
      rw [k9] at h1
      rw [k8] at h2
      by_cases z : (g 9).toNat = i
      · rw [← z]; omega
      · have := (c i h2).2.2 (g 9).toNat (by omega)
        omega
    refine ⟨?_, k9, k8, hb⟩
    have := smZ_J hJ (by omega) (by rw [k9, k8]; exact hlt) (fun z => by rw [k9]; exact (k1.2.2.1 z).1) (by rw [k9]; omega)
    rw [k9] at this
    exact this
theorem sg_pass {S : shp} {a N : Nat} {t p : Nat → Int} {A B : Int} (hl : sgL S a) (rt : rB t) (rp : rB p) (hA : -1 ≤ A ∧ A ≤ 2100000) (hB : -2 ≤ B ∧ B ≤ 2100000) : ∀ (n m : Nat) (u : Int) (v : vl) (g : Nat → Int), rw v a = iz g → rw v (a + 1) = iz t → rw v (a + 2) = iz p → rB g → sgJ u t p g → 0 ≤ u → u ≤ 2100000 → g 8 - g 9 = m → m < n →
    K_sg_pass_5 N n S v a (J A) (J B) (J (g 9)) = some (wr v a (iz (psZ t p A B m g)))
  | 0, m, u, v, g, _, _, _, _, _, _, _, _, h => absurd h (Nat.not_lt_zero _)
  | n + 1, m, u, v, g, hg, ht, hp, hr, hJ, hu, hu2, hm, hn => by
    show Y_sg_pass_5 N (K_sg_pass_5 N n S) S v a (J A) (J B) (J (g 9)) = _
    obtain ⟨hI, b, c, d⟩ := id hJ
    obtain ⟨l1, l2, l3, l4, l5⟩ := id hl
    have gg : ∀ k, (rw v a k).toInt = g k := fun k => by rw [hg]; exact zi_iz hr k
    have t9 : (J (g 9)).toInt = g 9 := J_toInt (by omega) (by omega)
    have tA : (J A).toInt = A := J_toInt (by omega) (by omega)
    unfold Y_sg_pass_5
    rw [grd_true _ l1]
    simp only [gi_rw]
    match m with
    | 0 =>
      have h1 : ¬ J (g 9) < rw v a 8 := fun q => by have := i_lt.mp q; rw [t9, gg] at this; omega
      simp only [h1, if_false]
      rw [sg_passEdges l1 hg hr (sgI_B hI ⟨hu, hu2⟩) hB]
      rfl
    | m + 1 =>
      have h1 : J (g 9) < rw v a 8 := i_lt.mpr (by rw [t9, gg]; omega)
      have e : (((g 9).toNat : Nat) : Int) = g 9 := by omega
      have t9' : (J (g 9)).toInt = (((g 9).toNat : Nat) : Int) := by rw [t9, e]
      have gt : (rw v (a + 1) (g 9).toNat).toInt = t (g 9).toNat := by rw [ht]; exact zi_iz rt _
      obtain ⟨c1, c2, -⟩ := c (g 9).toNat (by omega)
      have d1 := d (g 9).toNat (by omega) (by omega)
      simp only [h1, if_true]
      rw [l4]
      simp only [Option.bind_some]
      rw [grd_true _ l2, grd_true _ (vin_of l2 t9' (by omega))]
      simp only [clampT t9', gi_rw]
      by_cases h2 : A < t (g 9).toNat
      · have h2' : J A < rw v (a + 1) (g 9).toNat := i_lt.mpr (by rw [tA, gt]; exact h2)
        simp only [h2', if_true]
        rw [sg_passEdges l1 hg hr (sgI_B hI ⟨hu, hu2⟩) hB]
        show some (wr v a (iz (edE B g))) = some (wr v a (iz (if _ then _ else _)))
        rw [if_neg (fun q => by omega)]
      · have h2' : ¬ J A < rw v (a + 1) (g 9).toNat := fun q => h2 (by have := i_lt.mp q; rw [tA, gt] at this; exact this)
        simp only [h2', if_false]
        have hj : rw v (a + 1) (g 9).toNat - J 1 = J (t (g 9).toNat - 1) := by
          refine i_eq.mpr ?_
          rw [i_sub, gt, tJ, J_toInt (by omega) (by omega)]
          · rw [gt, tJ]; omega
          · rw [gt, tJ]; omega
        rw [hj, sg_passEdges l1 hg hr (sgI_B hI ⟨hu, hu2⟩) ⟨by omega, by omega⟩]
        simp only [Option.bind_some]
        rw [l5]
        simp only [Option.bind_some]
        rw [grd_true _ l3, grd_true _ (vin_of l3 t9' (by omega))]
        have n1 : a + 1 ≠ a := by omega
        have n2 : a + 2 ≠ a := by omega
        simp only [lt_def, si_wr, wr_wr, rw_wr, gi_rw, clampT t9', rw_wr_ne n2]
        have j9 : J (g 9) = J (((g 9).toNat : Nat) : Int) := by rw [e]
        rw [j9, sg_firstEdge hl (by rw [rw_wr_ne n1]; exact ht) (by rw [rw_wr_ne n2]; exact hp) rt rp c (by omega) (by omega)]
        simp only [Option.bind_some, ← j9]
        obtain ⟨jJ, j1, j2, j3⟩ := edE_J hJ hu hu2 (by omega) hr
        have g9' : smZ t p (edE (t (g 9).toNat - 1) g) 9 = g 9 + 1 := by show edE (t (g 9).toNat - 1) g 9 + 1 = _; rw [j1]
        have g8' : smZ t p (edE (t (g 9).toNat - 1) g) 8 = g 8 := j2
        have jn : J (g 9) + J 1 = J (g 9 + 1) := by
          refine i_eq.mpr ?_
          rw [i_add, t9, tJ, J_toInt (by omega) (by omega)]
          · rw [t9, tJ]; omega
          · rw [t9, tJ]; omega
        have gp : (rw v (a + 2) (g 9).toNat).toInt = p (g 9).toNat := by rw [hp]; exact zi_iz rp _
        have zE := zi_iz j3
        have hrow : up (up (up (iz (edE (t (g 9).toNat - 1) g)) 0 (rw v (a + 2) (g 9).toNat)) 1 (J (if 0 < p (g 9).toNat then t (g 9).toNat + p (g 9).toNat else -1))) 9 (J (g 9) + J 1) = iz (smZ t p (edE (t (g 9).toNat - 1) g)) := by
          refine row_ext fun k => ?_
          unfold up
          match k with
          | 0 => show (rw v (a + 2) (g 9).toNat).toInt = p (edE (t (g 9).toNat - 1) g 9).toNat; rw [j1]; exact gp
          | 1 =>
            show (J (if 0 < p (g 9).toNat then t (g 9).toNat + p (g 9).toNat else -1)).toInt = (if 0 < p (edE (t (g 9).toNat - 1) g 9).toNat then t (edE (t (g 9).toNat - 1) g 9).toNat + p (edE (t (g 9).toNat - 1) g 9).toNat else -1)
            rw [j1]
            split <;> exact J_toInt (by omega) (by omega)
          | 2 => exact zE 2
          | 3 => exact zE 3
          | 4 => exact zE 4
          | 5 => exact zE 5
          | 6 => exact zE 6
          | 7 => exact zE 7
          | 8 => exact zE 8
          | 9 => show (J (g 9) + J 1).toInt = edE (t (g 9).toNat - 1) g 9 + 1; rw [j1, jn]; exact J_toInt (by omega) (by omega)
          | j + 10 => exact zE (j + 10)
        have hrB : rB (smZ t p (edE (t (g 9).toNat - 1) g)) := fun k => by
          match k with
          | 0 => exact rp _
          | 1 => show _ ≤ (if 0 < p (edE (t (g 9).toNat - 1) g 9).toNat then t (edE (t (g 9).toNat - 1) g 9).toNat + p (edE (t (g 9).toNat - 1) g 9).toNat else -1) ∧ (if 0 < p (edE (t (g 9).toNat - 1) g 9).toNat then t (edE (t (g 9).toNat - 1) g 9).toNat + p (edE (t (g 9).toNat - 1) g 9).toNat else -1) < _; rw [j1]; split <;> omega
          | 2 => exact j3 2
          | 3 => exact j3 3
          | 4 => exact j3 4
          | 5 => exact j3 5
          | 6 => exact j3 6
          | 7 => exact j3 7
          | 8 => exact j3 8
          | 9 => rw [g9']; omega
          | j + 10 => exact j3 (j + 10)
        show K_sg_pass_5 N n S (wr v a (up (up (up (iz (edE (t (g 9).toNat - 1) g)) 0 (rw v (a + 2) (g 9).toNat)) 1 (J (if 0 < p (g 9).toNat then t (g 9).toNat + p (g 9).toNat else -1))) 9 (J (g 9) + J 1))) a (J A) (J B) (J (g 9) + J 1) = _
        rw [hrow, jn, ← g9', sg_pass (N := N) hl rt rp hA hB n m (t (g 9).toNat) _ _ rw_wr (by rw [rw_wr_ne n1]; exact ht) (by rw [rw_wr_ne n2]; exact hp) hrB jJ (by omega) (by omega) (by rw [g9', g8']; omega) (by omega), wr_wr]
        show _ = some (wr v a (iz (if _ then _ else _)))
        rw [if_pos ⟨by omega, by omega⟩]
end SGPASS
