/-! The time of the k-th edge from now on; the model's ways to the next output. -/
section OUTPUTS
def eTf (t p : Nat → Int) : Nat → Int → (Nat → Int) → Int
  | 0, _, _ => -1
  | n + 1, k, g => if 6000002 < keS t g then -1 else if evS t g then eTf t p n k (ev1 t p g) else if k ≤ 1 then g 1 else eTf t p n (k - 1) (ev1 t p g)
def eT (t p : Nat → Int) (k : Int) (g : Nat → Int) : Int := eTf t p (6000004 - keS t g).toNat k g
theorem eTf_eq {t p : Nat → Int} : ∀ (n m : Nat) (k u : Int) (g : Nat → Int), sgJ u t p g → 0 ≤ u → 6000003 - keS t g < n → 6000003 - keS t g < m → eTf t p n k g = eTf t p m k g
  | 0, 0, k, u, g, _, _, _, _ => rfl
  | 0, m + 1, k, u, g, _, _, h, _ => by
    show -1 = (if _ then _ else _)
    rw [if_pos (by omega)]
  | n + 1, 0, k, u, g, _, _, _, h => by
    show (if _ then _ else _) = -1
    rw [if_pos (by omega)]
  | n + 1, m + 1, k, u, g, hJ, hu, h1, h2 => by
    show (if _ then _ else _) = (if _ then _ else _)
    by_cases q : 6000002 < keS t g
    · rw [if_pos q, if_pos q]
    · obtain ⟨u', k1, k2, k3, k4, k5, -⟩ := ev1_J hJ hu (show keS t g ≤ 6300002 by omega)
      rw [if_neg q, if_neg q]
      have r := fun k => eTf_eq n m k u' _ k1 (by omega) (by omega) (by omega)
      split
      · exact r k
      · split
        · rfl
        · exact r (k - 1)
theorem eT_0 {t p g : Nat → Int} {k : Int} (h : 6000002 < keS t g) : eT t p k g = -1 := by
  unfold eT
  cases hn : (6000004 - keS t g).toNat with
  | zero => rfl
  | succ n => show (if _ then _ else _) = _; rw [if_pos h]
theorem eT_1 {t p g : Nat → Int} {k u : Int} (hJ : sgJ u t p g) (hu : 0 ≤ u) (h : keS t g ≤ 6000002) : eT t p k g = if evS t g then eT t p k (ev1 t p g) else if k ≤ 1 then g 1 else eT t p (k - 1) (ev1 t p g) := by
  obtain ⟨u', k1, k2, k3, k4, k5, -⟩ := ev1_J hJ hu (show keS t g ≤ 6300002 by omega)
  have e : (6000004 - keS t g).toNat = (6000003 - keS t g).toNat + 1 := by omega
  have r : ∀ k, eTf t p (6000003 - keS t g).toNat k (ev1 t p g) = eT t p k (ev1 t p g) := fun k => eTf_eq _ _ k u' _ k1 (by omega) (by omega) (by omega)
  have h0 : eT t p k g = eTf t p ((6000003 - keS t g).toNat + 1) k g := by unfold eT; rw [e]
  rw [h0, ← r k, ← r (k - 1)]
  show (if _ then _ else _) = _
  rw [if_neg (by omega)]
theorem eT_ge {t p : Nat → Int} : ∀ (n : Nat) (k u : Int) (g : Nat → Int), sgJ u t p g → 0 ≤ u → 6000003 - keS t g < n → eT t p k g = -1 ∨ (keS t g ≤ 3 * eT t p k g + 2 ∧ u < eT t p k g ∧ eT t p k g ≤ 2000000)
  | 0, k, u, g, hJ, hu, hn => Or.inl (eT_0 (by omega))
  | n + 1, k, u, g, hJ, hu, hn => by
    by_cases h : 6000002 < keS t g
    · exact Or.inl (eT_0 h)
    · obtain ⟨u', k1, k2, k3, k4, k5, k6, k7⟩ := ev1_J hJ hu (show keS t g ≤ 6300002 by omega)
      rw [eT_1 hJ hu (by omega)]
      have r := fun k => eT_ge n k u' _ k1 (by omega) (by omega)
      split
      · rcases r k with q | q
        · exact Or.inl q
        · right; omega
      · rename_i hs
        have s6 := k6 hs
        have hk : keS t g = 3 * g 1 + 2 := by
          unfold keS
          rw [if_neg hs, if_neg (by omega)]
        split
        · right; omega
        · rcases r (k - 1) with q | q
          · exact Or.inl q
          · right; omega
theorem eT_B {t p g : Nat → Int} {k u : Int} (hJ : sgJ u t p g) (hu : 0 ≤ u) : eT t p k g = -1 ∨ (keS t g ≤ 3 * eT t p k g + 2 ∧ u < eT t p k g ∧ eT t p k g ≤ 2000000) :=
  eT_ge (6000004 - keS t g).toNat k u g hJ hu (by omega)
theorem evK4 {t g : Nat → Int} (hs : ¬ evS t g) (h : g 5 < g 4) : (J (evK t g) = J 4 ∧ g 4 - g 5 = 1 ∧ evK t g = 4) ∨ (¬ J (evK t g) = J 4 ∧ 1 < g 4 - g 5) := by
  unfold evK
  rw [if_neg hs]
  by_cases q : g 5 + 1 < g 4
  · rw [if_pos q]; exact Or.inr ⟨by decide, by omega⟩
  · rw [if_neg q]; exact Or.inl ⟨rfl, by omega, rfl⟩
theorem evK_s {t g : Nat → Int} (hs : evS t g) : ¬ J (evK t g) = J 4 := by
  unfold evK
  rw [if_pos hs]
  decide
/-- the time of the next output -/
def oT (t p g : Nat → Int) : Int := eT t p (g 4 - g 5) g
theorem oT_ev {t p g : Nat → Int} {u : Int} (hJ : sgJ u t p g) (hu : 0 ≤ u) (h : keS t g ≤ 6000002) (h4 : ¬ J (evK t g) = J 4) : oT t p g = oT t p (ev1 t p g) := by
  unfold oT
  rw [eT_1 hJ hu h]
  by_cases hs : evS t g
  · have e : ev1 t p g = smZ t p g := if_pos hs
    rw [if_pos hs, e]
    rfl
  · rcases evK4 hs hJ.1.2.2.2.2.2.2 with q | q
    · exact absurd q.1 h4
    · have e : ev1 t p g = egZ g := if_neg hs
      rw [if_neg hs, if_neg (by omega), e]
      show eT t p (g 4 - g 5 - 1) _ = eT t p (g 4 - (if g 5 + 1 < g 4 then g 5 + 1 else 0)) _
      rw [if_pos (by omega), show g 4 - g 5 - 1 = g 4 - (g 5 + 1) by omega]
theorem oT_4 {t p g : Nat → Int} {u : Int} (hJ : sgJ u t p g) (hu : 0 ≤ u) (h : keS t g ≤ 6000002) (h4 : J (evK t g) = J 4) : ¬ evS t g ∧ oT t p g = g 1 ∧ keS t g = 3 * g 1 + 2 := by
  have hs : ¬ evS t g := fun q => evK_s q h4
  obtain ⟨u', -, -, -, -, -, k6, -⟩ := ev1_J hJ hu (show keS t g ≤ 6300002 by omega)
  have s6 := k6 hs
  refine ⟨hs, ?_, ?_⟩
  · unfold oT
    rw [eT_1 hJ hu h, if_neg hs]
    rcases evK4 hs hJ.1.2.2.2.2.2.2 with q | q
    · rw [if_pos (by omega)]
    · exact absurd h4 q.1
  · unfold keS
    rw [if_neg hs, if_neg (by omega)]
/-- up to the next output -/
theorem gm_waitsO {S : shp} {m N : Nat} {X : Nat → Int} {τ : Int} (hl : mdL S m) (hτ : τ ≠ -1) : ∀ (n : Nat) (v : vl) (T : Int) (c g : Nat → Int), rw v (m + 1) = iz (mk X T c g) → mdI X T c g → oT (mt X) (mp X) g = τ → 6000003 - keS (mt X) g < n → 6000003 - (3 * c 4 + 1) < n →
    (F_gm_comes m (J 2000000) S v).bind (fun (x, w) => K_gm_waitsFor_7 N (n + 1) S w m (J 4) x) = some (J 1, wr v (m + 1) (iz (mk X τ (ckK τ c) (sgK (mt X) (mp X) (3 * τ + 2) g))))
  | n, v, T, c, g, hw, hI, hT, h1, h2 => by
    obtain ⟨⟨u, hJ, q0, q1⟩, hcI, -⟩ := id hI
    have hge : keS (mt X) g ≤ 3 * τ + 2 ∧ τ ≤ 2000000 := by
      rcases eT_B (k := g 4 - g 5) hJ q0 with q | q
      · exact absurd (hT.symm.trans q) hτ
      · have : eT (mt X) (mp X) (g 4 - g 5) g = τ := hT
        rw [this] at q
        exact ⟨q.1, q.2.2⟩
    rcases three (t := mt X) (g := g) (L := 2000000) (z := c 4) with ⟨r1, r2⟩ | ⟨r1, r2⟩ | ⟨r1, r2⟩
    · omega
    · rw [gm_comesS hl hw hI (by decide) r1 r2]
      by_cases h4 : J (evK (mt X) g) = J 4
      · rw [h4]
        show Y_gm_waitsFor_7 N (K_gm_waitsFor_7 N n S) S _ m (J 4) (J 4) = _
        unfold Y_gm_waitsFor_7
        obtain ⟨hs, e1, e2⟩ := oT_4 hJ q0 r1 h4
        obtain ⟨s1, s2⟩ := mdI_ev hI (show keS (mt X) g ≤ 6300002 by omega)
        have : τ = g 1 := hT.symm.trans e1
        subst this
        rw [if_pos rfl, if_pos rfl, ckK_0 (by omega), ← sgK_ev' hI (by omega) (by omega), sgK_0 (by omega)]
        unfold evT
        rw [if_neg hs]
      · cases n with
        | zero => omega
        | succ n =>
          show Y_gm_waitsFor_7 N (K_gm_waitsFor_7 N (n + 1) S) S _ m (J 4) (J (evK (mt X) g)) = _
          unfold Y_gm_waitsFor_7
          obtain ⟨s1, s2⟩ := mdI_ev hI (show keS (mt X) g ≤ 6300002 by omega)
          rw [if_neg h4, if_neg (evK_ne _ _).1, grd_true _ hl.1]
          have := gm_waitsO (N := N) hl hτ n (wr v (m + 1) (iz (mk X (evT (mt X) g) c (ev1 (mt X) (mp X) g)))) _ _ _ rw_wr s1 ((oT_ev hJ q0 r1 h4).symm.trans hT) (by omega) (by omega)
          rw [wr_wr, sgK_ev' hI (by omega) hge.1] at this
          exact this
    · cases n with
      | zero => omega
      | succ n =>
        rw [gm_comesC hl hw hI (by decide) r1 r2]
        show Y_gm_waitsFor_7 N (K_gm_waitsFor_7 N (n + 1) S) S _ m (J 4) (J 2) = _
        unfold Y_gm_waitsFor_7
        have k := tkZ_inv hcI
        rw [if_neg (by decide), if_neg (by decide), grd_true _ hl.1]
        have := gm_waitsO (N := N) hl hτ n (wr v (m + 1) (iz (mk X (c 4) (tkZ c) g))) _ _ _ rw_wr (mdI_ck hI (by omega)) hT (by omega) (by omega)
        rw [wr_wr, ← ckK_1 hcI (by omega)] at this
        exact this
theorem gm_waitsO0 {S : shp} {m N : Nat} {X : Nat → Int} (hl : mdL S m) : ∀ (n : Nat) (v : vl) (T : Int) (c g : Nat → Int), rw v (m + 1) = iz (mk X T c g) → mdI X T c g → oT (mt X) (mp X) g = -1 → 6000003 - keS (mt X) g < n → 6000003 - (3 * c 4 + 1) < n →
    ∃ T', (F_gm_comes m (J 2000000) S v).bind (fun (x, w) => K_gm_waitsFor_7 N (n + 1) S w m (J 4) x) = some (J 0, wr v (m + 1) (iz (mk X T' (ckK 2000000 c) (sgK (mt X) (mp X) 6000002 g)))) ∧ 0 ≤ T' ∧ T' ≤ 2100000
  | n, v, T, c, g, hw, hI, hT, h1, h2 => by
    obtain ⟨⟨u, hJ, q0, q1⟩, hcI, -⟩ := id hI
    rcases three (t := mt X) (g := g) (L := 2000000) (z := c 4) with ⟨r1, r2⟩ | ⟨r1, r2⟩ | ⟨r1, r2⟩
    · refine ⟨T, ?_, hI.2.2.2.2.1⟩
      rw [gm_comes0 hl hw hI (by decide) r1 r2]
      show Y_gm_waitsFor_7 N (K_gm_waitsFor_7 N n S) S _ m (J 4) (J 0) = _
      unfold Y_gm_waitsFor_7
      rw [if_neg (by decide), if_pos rfl, if_neg (by decide), ckK_0 r2, sgK_0 (show (6000002 : Int) < keS (mt X) g by omega), ← hw, wr_self]
    · have h4 : ¬ J (evK (mt X) g) = J 4 := fun h4 => by
        obtain ⟨hs, e1, e2⟩ := oT_4 hJ q0 r1 h4
        have := keS_nn hI
        omega
      cases n with
      | zero => omega
      | succ n =>
        obtain ⟨s1, s2⟩ := mdI_ev hI (show keS (mt X) g ≤ 6300002 by omega)
        obtain ⟨T', this, hT'⟩ := gm_waitsO0 (N := N) hl n (wr v (m + 1) (iz (mk X (evT (mt X) g) c (ev1 (mt X) (mp X) g)))) _ _ _ rw_wr s1 ((oT_ev hJ q0 r1 h4).symm.trans hT) (by omega) (by omega)
        refine ⟨T', ?_, hT'⟩
        rw [gm_comesS hl hw hI (by decide) r1 r2]
        show Y_gm_waitsFor_7 N (K_gm_waitsFor_7 N (n + 1) S) S _ m (J 4) (J (evK (mt X) g)) = _
        unfold Y_gm_waitsFor_7
        rw [if_neg h4, if_neg (evK_ne _ _).1, grd_true _ hl.1]
        rw [wr_wr, sgK_ev' hI (by omega) (show keS (mt X) g ≤ 6000002 by omega)] at this
        exact this
    · cases n with
      | zero => omega
      | succ n =>
        have k := tkZ_inv hcI
        obtain ⟨T', this, hT'⟩ := gm_waitsO0 (N := N) hl n (wr v (m + 1) (iz (mk X (c 4) (tkZ c) g))) _ _ _ rw_wr (mdI_ck hI (by omega)) hT (by omega) (by omega)
        refine ⟨T', ?_, hT'⟩
        rw [gm_comesC hl hw hI (by decide) r1 r2]
        show Y_gm_waitsFor_7 N (K_gm_waitsFor_7 N (n + 1) S) S _ m (J 4) (J 2) = _
        unfold Y_gm_waitsFor_7
        rw [if_neg (by decide), if_neg (by decide), grd_true _ hl.1]
        rw [wr_wr, ← ckK_1 hcI r2] at this
        exact this
theorem gm_waitsForO {S : shp} {v : vl} {m N : Nat} {X : Nat → Int} {T : Int} {c g : Nat → Int} (hN : 7000000 ≤ N) (hl : mdL S m) (hw : rw v (m + 1) = iz (mk X T c g)) (hI : mdI X T c g) :
    (∀ τ, τ ≠ -1 → oT (mt X) (mp X) g = τ → F_gm_waitsFor N m (J 4) S v = some (J 1, wr v (m + 1) (iz (mk X τ (ckK τ c) (sgK (mt X) (mp X) (3 * τ + 2) g))))) ∧
    (oT (mt X) (mp X) g = -1 → ∃ T', F_gm_waitsFor N m (J 4) S v = some (J 0, wr v (m + 1) (iz (mk X T' (ckK 2000000 c) (sgK (mt X) (mp X) 6000002 g)))) ∧ 0 ≤ T' ∧ T' ≤ 2100000) := by
  obtain ⟨n, rfl⟩ : ∃ n, N = n + 1 := ⟨N - 1, by omega⟩
  have h0 := keS_nn hI
  have h4 := hI.2.1.2.2.2.2.1
  unfold F_gm_waitsFor
  rw [grd_true _ hl.1]
  exact ⟨fun τ hτ hT => gm_waitsO (N := n + 1) hl hτ n v T c g hw hI hT (by omega) (by omega), fun hT => gm_waitsO0 (N := n + 1) hl n v T c g hw hI hT (by omega) (by omega)⟩
/-- clock edges are counted up to the next output -/
theorem gm_countsO {S : shp} {m N : Nat} {X : Nat → Int} {τ : Int} (hl : mdL S m) (hτ : τ ≠ -1) : ∀ (n : Nat) (v : vl) (T q : Int) (c g : Nat → Int), rw v (m + 1) = iz (mk X T c g) → mdI X T c g → oT (mt X) (mp X) g = τ → 6000003 - keS (mt X) g < n → 6000003 - (3 * c 4 + 1) < n → rw v m 13 = J q → -3000000 ≤ q - c 5 ∧ q - c 5 ≤ 3000000 →
    (F_gm_comes m (J 2000000) S v).bind (fun (x, w) => K_gm_countsTo_7 N (n + 1) S w m (J 4) (J 2) x) = some (J 1, wr (wr v m (fdC (rw v m) (q + (ckK τ c 5 - c 5)) τ (sgK (mt X) (mp X) (3 * τ + 2) g 2))) (m + 1) (iz (mk X τ (ckK τ c) (sgK (mt X) (mp X) (3 * τ + 2) g))))
  | n, v, T, q, c, g, hw, hI, hT, h1, h2, hq, hq2 => by
    have ne1 : m + 1 ≠ m := by omega
    obtain ⟨⟨u, hJ, q0, q1⟩, hcI, hcB, -⟩ := id hI
    have hc5 := hcI.2.2.2.2
    have tq : (J q).toInt = q := J_toInt (by omega) (by omega)
    have jq : ∀ d : Int, (d = 0 ∨ d = 1) → J q + J d = J (q + d) := by
      intro d hd
      have td : (J d).toInt = d := J_toInt (by omega) (by omega)
      refine i_eq.mpr ?_
      rw [i_add, tq, td, J_toInt (by omega) (by omega)]
      · rw [tq, td]; omega
      · rw [tq, td]; omega
    have hge : keS (mt X) g ≤ 3 * τ + 2 ∧ τ ≤ 2000000 := by
      rcases eT_B (k := g 4 - g 5) hJ q0 with q | q
      · exact absurd (hT.symm.trans q) hτ
      · have : eT (mt X) (mp X) (g 4 - g 5) g = τ := hT
        rw [this] at q
        exact ⟨q.1, q.2.2⟩
    rcases three (t := mt X) (g := g) (L := 2000000) (z := c 4) with ⟨r1, r2⟩ | ⟨r1, r2⟩ | ⟨r1, r2⟩
    · omega
    · rw [gm_comesS hl hw hI (by decide) r1 r2]
      by_cases h4 : J (evK (mt X) g) = J 4
      · rw [h4]
        show Y_gm_countsTo_7 N (K_gm_countsTo_7 N n S) S _ m (J 4) (J 2) (J 4) = _
        unfold Y_gm_countsTo_7 K_gm_countsTo_45
        obtain ⟨hs, e1, e2⟩ := oT_4 hJ q0 r1 h4
        obtain ⟨s1, s2⟩ := mdI_ev hI (show keS (mt X) g ≤ 6300002 by omega)
        have : τ = g 1 := hT.symm.trans e1
        subst this
        rw [if_pos rfl, grd_true _ hl.1, hl.2.1]
        simp only [Option.bind_some]
        rw [grd_true _ hl.2.2.1]
        simp only [lt_def, si_wr, gi_x, rw_wr, wr_wr, rw_wr_ne ne1, rw_wr_ne ne1.symm]
        rw [if_pos trivial, ckK_0 (show g 1 < c 4 by omega), ← sgK_ev' hI (by omega) (show keS (mt X) g ≤ 3 * g 1 + 2 by omega), sgK_0 (show 3 * g 1 + 2 < keS (mt X) (ev1 (mt X) (mp X) g) by omega), wr_comm ne1]
        unfold fdC evT
        rw [show q + (c 5 - c 5) = q by omega, ← hq, up_self, if_neg hs]
        rfl
      · cases n with
        | zero => omega
        | succ n =>
          show Y_gm_countsTo_7 N (K_gm_countsTo_7 N (n + 1) S) S _ m (J 4) (J 2) (J (evK (mt X) g)) = _
          unfold Y_gm_countsTo_7
          obtain ⟨s1, s2⟩ := mdI_ev hI (show keS (mt X) g ≤ 6300002 by omega)
          rw [if_neg h4, if_neg (evK_ne _ _).1, grd_true _ hl.1, if_neg (evK_ne _ _).2]
          simp only [lt_def, si_wr, gi_x, rw_wr_ne ne1.symm, hq]
          rw [jq 0 (Or.inl rfl), Int.add_zero, ← hq, up_self, ← wr_comm (a := m) (b := m + 1) ne1.symm, wr_self]
          have := gm_countsO (N := N) hl hτ n (wr v (m + 1) (iz (mk X (evT (mt X) g) c (ev1 (mt X) (mp X) g)))) _ q _ _ rw_wr s1 ((oT_ev hJ q0 r1 h4).symm.trans hT) (by omega) (by omega) (by rw [rw_wr_ne ne1.symm]; exact hq) hq2
          rw [sgK_ev' hI (by omega) hge.1, rw_wr_ne ne1.symm, wr_comm ne1, wr_wr] at this
          exact this
    · cases n with
      | zero => omega
      | succ n =>
        rw [gm_comesC hl hw hI (by decide) r1 r2]
        show Y_gm_countsTo_7 N (K_gm_countsTo_7 N (n + 1) S) S _ m (J 4) (J 2) (J 2) = _
        unfold Y_gm_countsTo_7
        have k := tkZ_inv hcI
        rw [if_neg (by decide), if_neg (by decide), grd_true _ hl.1, if_pos rfl]
        simp only [lt_def, si_wr, gi_x, rw_wr_ne ne1.symm, hq]
        rw [jq 1 (Or.inr rfl)]
        have e5 : tkZ c 5 = c 5 + 1 := rfl
        have := gm_countsO (N := N) hl hτ n (wr (wr v (m + 1) (iz (mk X (c 4) (tkZ c) g))) m (up (rw v m) 13 (J (q + 1)))) _ (q + 1) _ _ (by rw [rw_wr_ne ne1, rw_wr]) (mdI_ck hI (by omega)) hT (by omega) (by omega) (by rw [rw_wr, up_same]) (by rw [e5]; omega)
        rw [← ckK_1 hcI (by omega), e5] at this
        refine Eq.trans this ?_
        rw [rw_wr, wr_wr, wr_comm ne1, wr_wr]
        unfold fdC
        rw [up_up, show q + 1 + (ckK τ c 5 - (c 5 + 1)) = q + (ckK τ c 5 - c 5) by omega]
theorem gm_countsO0 {S : shp} {m N : Nat} {X : Nat → Int} (hl : mdL S m) : ∀ (n : Nat) (v : vl) (T : Int) (c g : Nat → Int), rw v (m + 1) = iz (mk X T c g) → mdI X T c g → oT (mt X) (mp X) g = -1 → 6000003 - keS (mt X) g < n → 6000003 - (3 * c 4 + 1) < n →
    ∃ T' f', (F_gm_comes m (J 2000000) S v).bind (fun (x, w) => K_gm_countsTo_7 N (n + 1) S w m (J 4) (J 2) x) = some (J 0, wr (wr v m f') (m + 1) (iz (mk X T' (ckK 2000000 c) (sgK (mt X) (mp X) 6000002 g)))) ∧ (0 ≤ T' ∧ T' ≤ 2100000) ∧ ∀ k, k < 11 ∨ 15 < k → f' k = rw v m k
  | n, v, T, c, g, hw, hI, hT, h1, h2 => by
    have ne1 : m + 1 ≠ m := by omega
    obtain ⟨⟨u, hJ, q0, q1⟩, hcI, -⟩ := id hI
    have step : ∀ (n' : Nat) (f : Nat → Int32) (R : Nat → Int32) (T1 : Int) (c1 g1 : Nat → Int), n = n' + 1 → (∀ k, k < 11 ∨ 15 < k → f k = rw v m k) → R = iz (mk X T1 c1 g1) → mdI X T1 c1 g1 → oT (mt X) (mp X) g1 = -1 → 6000003 - keS (mt X) g1 < n' → 6000003 - (3 * c1 4 + 1) < n' → ckK 2000000 c1 = ckK 2000000 c → sgK (mt X) (mp X) 6000002 g1 = sgK (mt X) (mp X) 6000002 g →
        ∃ T' f', (F_gm_comes m (J 2000000) S (wr (wr v (m + 1) R) m f)).bind (fun (x, w) => K_gm_countsTo_7 N (n' + 1) S w m (J 4) (J 2) x) = some (J 0, wr (wr v m f') (m + 1) (iz (mk X T' (ckK 2000000 c) (sgK (mt X) (mp X) 6000002 g)))) ∧ (0 ≤ T' ∧ T' ≤ 2100000) ∧ ∀ k, k < 11 ∨ 15 < k → f' k = rw v m k := by
      intro n' f R T1 c1 g1 hn hf hR hI1 ho k1 k2 e1 e2
      subst hn
      obtain ⟨T', f', r1, r2, r3⟩ := gm_countsO0 (N := N) hl n' (wr (wr v (m + 1) R) m f) T1 c1 g1 (by rw [rw_wr_ne ne1, rw_wr]; exact hR) hI1 ho k1 k2
      refine ⟨T', f', ?_, r2, fun k hk => ?_⟩
      · rw [r1, e1, e2, wr_wr, wr_comm ne1, wr_wr]
      · rw [r3 k hk, rw_wr]; exact hf k hk
    rcases three (t := mt X) (g := g) (L := 2000000) (z := c 4) with ⟨r1, r2⟩ | ⟨r1, r2⟩ | ⟨r1, r2⟩
    · refine ⟨T, up (up (rw v m) 12 (rw v (m + 1) 0)) 15 (rw v (m + 1) 14), ?_, hI.2.2.2.2.1, fun k hk => by rw [up_ne (by omega), up_ne (by omega)]⟩
      rw [gm_comes0 hl hw hI (by decide) r1 r2]
      show Y_gm_countsTo_7 N (K_gm_countsTo_7 N n S) S _ m (J 4) (J 2) (J 0) = _
      unfold Y_gm_countsTo_7 K_gm_countsTo_45
      rw [if_neg (by decide), if_pos rfl, grd_true _ hl.1, hl.2.1]
      simp only [Option.bind_some]
      rw [grd_true _ hl.2.2.1]
      simp only [lt_def, si_wr, gi_x, rw_wr, wr_wr, rw_wr_ne ne1, rw_wr_ne ne1.symm]
      rw [if_neg (by decide), sgK_0 (show (6000002 : Int) < keS (mt X) g by omega), ckK_0 r2, ← hw]
      refine congrArg (fun z => some (J 0, z)) ?_
      rw [← wr_comm ne1, wr_self]
    · have h4 : ¬ J (evK (mt X) g) = J 4 := fun h4 => by
        obtain ⟨hs, e1, e2⟩ := oT_4 hJ q0 r1 h4
        have := keS_nn hI
        omega
      cases n with
      | zero => omega
      | succ n =>
        obtain ⟨s1, s2⟩ := mdI_ev hI (show keS (mt X) g ≤ 6300002 by omega)
        rw [gm_comesS hl hw hI (by decide) r1 r2]
        show ∃ T' f', Y_gm_countsTo_7 N (K_gm_countsTo_7 N (n + 1) S) S _ m (J 4) (J 2) (J (evK (mt X) g)) = _ ∧ _
        unfold Y_gm_countsTo_7
        rw [if_neg h4, if_neg (evK_ne _ _).1, grd_true _ hl.1, if_neg (evK_ne _ _).2]
        simp only [lt_def, si_wr, gi_x, rw_wr_ne ne1.symm]
        exact step n _ _ _ _ _ rfl (fun k hk => up_ne (by omega)) rfl s1 ((oT_ev hJ q0 r1 h4).symm.trans hT) (by omega) (by omega) rfl (sgK_ev' hI (by omega) r1)
    · cases n with
      | zero => omega
      | succ n =>
        have k := tkZ_inv hcI
        rw [gm_comesC hl hw hI (by decide) r1 r2]
        show ∃ T' f', Y_gm_countsTo_7 N (K_gm_countsTo_7 N (n + 1) S) S _ m (J 4) (J 2) (J 2) = _ ∧ _
        unfold Y_gm_countsTo_7
        rw [if_neg (by decide), if_neg (by decide), grd_true _ hl.1, if_pos rfl]
        simp only [lt_def, si_wr, gi_x, rw_wr_ne ne1.symm]
        exact step n _ _ _ _ _ rfl (fun k hk => up_ne (by omega)) rfl (mdI_ck hI (by omega)) hT (by omega) (by omega) (ckK_1 hcI r2).symm rfl
theorem gm_countsToO {S : shp} {v : vl} {m N : Nat} {X : Nat → Int} {T : Int} {c g : Nat → Int} (hN : 7000000 ≤ N) (hl : mdL S m) (hw : rw v (m + 1) = iz (mk X T c g)) (hI : mdI X T c g) :
    (∀ τ q, τ ≠ -1 → oT (mt X) (mp X) g = τ → rw v m 13 = J q → -3000000 ≤ q - c 5 ∧ q - c 5 ≤ 3000000 → F_gm_countsTo N m (J 4) (J 2) S v = some (J 1, wr (wr v m (fdC (rw v m) (q + (ckK τ c 5 - c 5)) τ (sgK (mt X) (mp X) (3 * τ + 2) g 2))) (m + 1) (iz (mk X τ (ckK τ c) (sgK (mt X) (mp X) (3 * τ + 2) g))))) ∧
    (oT (mt X) (mp X) g = -1 → ∃ T' f', F_gm_countsTo N m (J 4) (J 2) S v = some (J 0, wr (wr v m f') (m + 1) (iz (mk X T' (ckK 2000000 c) (sgK (mt X) (mp X) 6000002 g)))) ∧ (0 ≤ T' ∧ T' ≤ 2100000) ∧ ∀ k, k < 11 ∨ 15 < k → f' k = rw v m k) := by
  obtain ⟨n, rfl⟩ : ∃ n, N = n + 1 := ⟨N - 1, by omega⟩
  have h0 := keS_nn hI
  have h4 := hI.2.1.2.2.2.2.1
  unfold F_gm_countsTo
  rw [grd_true _ hl.1]
  exact ⟨fun τ q hτ hT hq hq2 => gm_countsO (N := n + 1) hl hτ n v T q c g hw hI hT (by omega) (by omega) hq hq2, fun hT => gm_countsO0 (N := n + 1) hl n v T c g hw hI hT (by omega) (by omega)⟩
end OUTPUTS
