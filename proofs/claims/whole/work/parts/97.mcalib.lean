/-! The model calibrates. -/
section MCALIB
variable {S : shp} {v : vl} {a b m N q : Nat} {h c g t p X : Nat → Int} {M : Nat → Nat → Int} {now : sta} {sv : Option sta} {ps : List sta} {re ca ch : Int}
theorem clamp_mm {z : Int} : maxZ (-99) (minZ 99 z) = clampZ z := by
  unfold maxZ minZ clampZ
  repeat' split
  all_goals omega
/-- the row now is another -/
theorem dR_row {now' : sta} {R : Nat → Int32} (hR : dR S v m now sv ps re ca ch) (h : rwM R now') : dR S (wr v (m + 1) R) m now' sv ps re ca ch := by
  obtain ⟨hl, g1, gsv, g5, g6, g7, g8, g9⟩ := hR
  refine ⟨hl, by rw [rw_wr]; exact h, ?_, by rw [rw_wr_ne (by omega)]; exact g5, fun i s his => by rw [rw_wr_ne (by omega)]; exact g6 i s his, by rw [rw_wr_ne (by omega)]; exact g7, by rw [rw_wr_ne (by omega)]; exact g8, by rw [rw_wr_ne (by omega)]; exact g9⟩
  rcases gsv with ⟨z1, z2⟩ | ⟨s, z1, z2, z3⟩
  · exact Or.inl ⟨z1, by rw [rw_wr_ne (by omega)]; exact z2⟩
  · exact Or.inr ⟨s, z1, by rw [rw_wr_ne (by omega)]; exact z2, by rw [rw_wr_ne (by omega)]; exact z3⟩
theorem gm_calibrate {n : Int} (hN : 7000000 ≤ N) (hR : dR S v m now sv ps re ca ch) (hs : sV now) (hp : psV ps) (hn : -2147483648 ≤ n ∧ n < 2147483648) :
    UM (F_gm_calibrate N m (J n) S v) (now, sv, ps, re, ca, ch) (caO (now, sv, ps, re, ca, ch) n) S v m := by
  have hl := hR.1
  have h1 := hR.2.1
  have hv0 := hs.1.1
  have n1 : ¬ J 1 = J 0 := by decide
  have r0 : rw (th v m 0) (m + 1) 0 = J (now.1 0) := by rw [rw_th (by omega)]; exact h1.1 0 (by decide)
  unfold F_gm_calibrate caO
  rw [grd_true _ hl.1]
  simp only [lt_def, si_th]
  rw [gm_inRange hn (by decide) (by decide)]
  simp only [Option.bind_some]
  unfold K_gm_calibrate_22
  by_cases z : 1 ≤ n ∧ n ≤ 100000
  · rw [if_pos z, if_neg n1, if_pos z, grd_true _ hl.1, gm_fails0]
    simp only [Option.bind_some, if_true]
    rw [grd_true _ hl.1, hl.2.1]
    simp only [Option.bind_some]
    rw [grd_true _ hl.2.2.1, gi_rw, r0, ← J_add]
    by_cases y : 2000000 < now.1 0 + n
    · rw [if_pos ((J_lt (by decide) (by omega)).mpr y), if_pos y, gm_refuses hl]
      obtain ⟨d1, d2, d3⟩ := gm_backRefuses (x := 1) (y := 0) hR hs (mqt_th (x := 0))
      exact ⟨_, rfl, d1, d2, d3⟩
    · obtain ⟨w3, e3⟩ : ∃ w3, w3 = wr (th v m 0) (m + 3) (cpR (rw (th v m 0) (m + 1)) (rw (th v m 0) (m + 3)) 0 0 199) := ⟨_, rfl⟩
      have R3 : rwM (rw w3 (m + 1)) now := by rw [e3, rw_wr_ne (by omega), rw_th (by omega)]; exact h1
      have hc5 := hs.2.1.1.2.2.2.2.2
      have hc0 := hs.2.1.1.1
      obtain ⟨R, f1, f2⟩ := gm_go (T := now.1 0 + n) hN hl R3 hs (by omega)
      have s0 : rw w3 (m + 1) 0 = J (now.1 0) := R3.1 0 (by decide)
      have s11 : rw w3 (m + 1) 11 = J (now.2.1 5) := R3.1 11 (by decide)
      have R11 : R 11 = J ((goS (now.1 0 + n) now).2.1 5) := f2.1 11 (by decide)
      have R1 : R 1 = J ((goS (now.1 0 + n) now).2.1 0) := f2.1 1 (by decide)
      have cK := ckV_K (T := now.1 0 + n) hs.2.1 (by omega)
      have ec0 : (goS (now.1 0 + n) now).2.1 0 = now.2.1 0 := cK.2.2.2
      have ed : (goS (now.1 0 + n) now).2.1 5 - now.2.1 5 = caD n now := rfl
      have hd : 0 ≤ caD n now ∧ caD n now ≤ 300000 := by
        have i1 := cK.2.2.1
        have i2 := cK.1.2.1
        unfold caD
        omega
      rw [if_neg (fun u => y ((J_lt (by decide) (by omega)).mp u)), if_neg y, gm_thinks (by omega) hl]
      simp only [Option.bind_some]
      rw [← e3, gi_rw, s0, ← J_add, f1]
      simp only [Option.bind_some, lt_def, gi_x, rw_wr, s11, R11]
      rw [← J_sub, ed]
      by_cases d : caD n now = 0
      · rw [if_pos (by rw [d]), if_pos d]
        obtain ⟨v5, b1, b2⟩ := BK_mq (v := th v m 0) (m := m) (BK_wr1 (R := R) (BK_back (N := N) (S := S) (x := 0) hN hl))
        rw [← e3] at b1
        rw [b1]
        simp only [Option.bind_some]
        rw [gm_refuses hl]
        obtain ⟨d1, d2, d3⟩ := gm_backRefuses (x := 4) (y := 0) hR hs (mqt_mq b2)
        exact ⟨_, rfl, d1, d2, d3⟩
      · obtain ⟨v6, k1, k2, k3, k4, k5⟩ := gm_stays (N := N) (w := wr w3 (m + 1) R) (now' := goS (now.1 0 + n) now) (by omega) hR hs hp
          (fun k hk => by rw [rw_wr_ne (by omega), e3, rw_wr, cpR_lt hk, rw_th (by omega)])
          (by rw [rw_wr]; exact f2)
          (fun x x0 x1 x3 => by rw [rw_wr_ne x1, e3, rw_wr_ne x3, rw_th x0])
          (by rw [e3]; rfl)
          (fun k hk => by rw [rw_wr_ne (by omega), e3, rw_wr_ne (by omega)]; exact rw_th0 (by omega))
        have t1 : rw v6 (m + 1) = R := by rw [k5, rw_wr]
        have hp1 : 10 ≤ caD n now * now.2.1 0 := by
          have := Int.mul_le_mul (show 1 ≤ caD n now by omega) hc0.1 (by decide) (by omega)
          omega
        have hp2 : caD n now * now.2.1 0 ≤ 300000 * 999 := Int.mul_le_mul hd.2 hc0.2 (by omega) (by decide)
        have h10 : rw v6 m 10 = J 0 := by
          rw [k4 10 (by decide), rw_wr_ne (by omega), e3, rw_wr_ne (by omega)]
          exact th10
        rw [if_neg (fun u => d ((J_eq (by omega) (by decide)).mp u)), if_neg d, k1]
        simp only [Option.bind_some, t1, R1]
        rw [ec0, ← J_mul, grd_true _ (show ¬ J (caD n now * now.2.1 0) = 0 from fun u => by have := (J_eq (x := caD n now * now.2.1 0) (y := 0) (by omega) (by decide)).mp u; omega), ← J_mul, J_ediv (by omega) (by omega), ← J_sub]
        have q0 : 0 ≤ n * 1000 / (caD n now * now.2.1 0) := Int.ediv_nonneg (by omega) (by omega)
        have q1 : n * 1000 / (caD n now * now.2.1 0) ≤ n * 1000 := Int.ediv_le_self _ (by omega)
        rw [ma_minJ (by decide) (by omega)]
        simp only [Option.bind_some]
        have mb := minZ_B (x := 99) (y := n * 1000 / (caD n now * now.2.1 0) - 1000)
        rw [ma_maxJ (by decide) (by omega), clamp_mm]
        simp only [Option.bind_some, si_wr, rw_wr, up_same]
        rw [← J_add, t1]
        exact ⟨_, rfl, dR_row k2 (rowM_set6 f2), mch_tr k3 (mch_wr (by omega)), by rw [rw_wr_ne (by omega)]; exact h10⟩
  · rw [if_neg z, if_pos rfl, if_neg z, grd_true _ hl.1, gm_fails1 hl]
    simp only [Option.bind_some, n1, if_false]
    rw [th_th]
    exact ⟨_, rfl, dR_th hR hs, mch_th, th10⟩
end MCALIB
