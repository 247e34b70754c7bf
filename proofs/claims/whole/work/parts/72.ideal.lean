/-! How unsteady the clock is; ideal values; how far apart. -/
section IDEAL
def minZ (x y : Int) : Int := if y < x then y else x
def maxZ (x y : Int) : Int := if x < y then y else x
/-- least and greatest steps: c a clock behind an edge -/
def wbZ : Nat → (Nat → Int) → Int → Int → Int
  | 0, _, l, k => k - l
  | n + 1, c, l, k => wbZ n (tkZ c) (minZ l (c 4 - c 6)) (maxZ k (c 4 - c 6))
def woZ (c : Nat → Int) (n : Nat) : Int := if (tkN n c) 4 ≤ 2000000 then wbZ n (tkZ c) 2000000 0 else -1
theorem ma_minJ {S : shp} {v : vl} {x y : Int} (hx : -2147483648 ≤ x ∧ x < 2147483648) (hy : -2147483648 ≤ y ∧ y < 2147483648) : F_ma_min (J x) (J y) S v = some (J (minZ x y)) := by
  rw [ma_min]
  unfold minZ
  by_cases z : y < x
  · rw [if_pos ((J_lt hy hx).mpr z), if_pos z]
  · rw [if_neg (fun w => z ((J_lt hy hx).mp w)), if_neg z]
theorem ma_maxJ {S : shp} {v : vl} {x y : Int} (hx : -2147483648 ≤ x ∧ x < 2147483648) (hy : -2147483648 ≤ y ∧ y < 2147483648) : F_ma_max (J x) (J y) S v = some (J (maxZ x y)) := by
  rw [ma_max]
  unfold maxZ
  by_cases z : x < y
  · rw [if_pos ((J_lt hx hy).mpr z), if_pos z]
  · rw [if_neg (fun w => z ((J_lt hx hy).mp w)), if_neg z]
theorem minZ_B {x y : Int} : (minZ x y = x ∨ minZ x y = y) := by unfold minZ; split <;> simp
theorem maxZ_B {x y : Int} : (maxZ x y = x ∨ maxZ x y = y) := by unfold maxZ; split <;> simp
theorem gc_wobLoop {S : shp} {b N : Nat} {n0 : Nat} (hN : 7000000 ≤ N) (hk : kin S b = some (0, 0)) (hn0 : n0 ≤ 1000) : ∀ (f i : Nat) (v : vl) (c : Nat → Int) (l k : Int), i ≤ n0 → n0 - i < f → ag 7 (rw v b) c → ckI c → (0 ≤ c 6 ∧ c 6 ≤ c 4) → c 4 + 1000 * (n0 - i : Nat) ≤ 300000000 → 0 ≤ c 5 ∧ c 5 + (n0 - i : Nat) ≤ 300000000 → (0 ≤ l ∧ l ≤ 300000000) → (0 ≤ k ∧ k ≤ 300000000) →
    ∃ v', K_gc_wobble_33 N f S v (J n0) b (J l) (J k) (J i) = some (.inr (J (if (tkN (n0 - i) c) 6 ≤ 2000000 then wbZ (n0 - i) c l k else -1), S, v')) ∧ fri b 1 v v'
  | 0, i, v, c, l, k, _, h, _, _, _, _, _, _, _ => absurd h (Nat.not_lt_zero _)
  | f + 1, i, v, c, l, k, hi, hf, hc, hI, h6, h4, h5, hl, hkk => by
    obtain ⟨⟨b0, b1, b2, b3, b4, b5⟩⟩ := hI, True.intro
    have hI' : ckI c := ⟨b0, b1, b2, b3, b4, b5⟩
    show ∃ v', Y_gc_wobble_33 N (K_gc_wobble_33 N f) S v (J n0) b (J l) (J k) (J i) = _ ∧ _
    unfold Y_gc_wobble_33
    by_cases q : i < n0
    · have hd : n0 - i = (n0 - (i + 1)) + 1 := by omega
      have hr : ∀ k, k < 7 → -2147483648 ≤ c k ∧ c k < 2147483648 := fun k hk => by
        match k with
        | 0 => omega
        | 1 => omega
        | 2 => omega
        | 3 => omega
        | 4 => omega
        | 5 => omega
        | 6 => omega
        | j + 7 => omega
      obtain ⟨g, s1, s2⟩ := ckW_tick hk hc hr hI' (by omega) (by omega)
      have tt := tkZ_inv hI'
      have e6 : tkZ c 6 = c 4 := rfl
      have e5 : tkZ c 5 = c 5 + 1 := rfl
      have r6 : g 6 = J (c 4) := s2 6 (by decide)
      have v6 : rw v b 6 = J (c 6) := hc 6 (by decide)
      rw [if_pos ((J_lt (by omega) (by omega)).mpr (by omega)), grd_true _ hk, s1]
      simp only [Option.bind_some, gi_x, rw_wr, r6, v6]
      rw [← J_sub, ma_minJ (by omega) (by omega)]
      simp only [Option.bind_some]
      rw [ma_maxJ (by omega) (by omega)]
      simp only [Option.bind_some]
      have hb1 := minZ_B (x := l) (y := c 4 - c 6)
      have hb2 := maxZ_B (x := k) (y := c 4 - c 6)
      obtain ⟨v', p1, p2⟩ := gc_wobLoop (S := S) (b := b) hN hk hn0 f (i + 1) (wr v b g) (tkZ c) (minZ l (c 4 - c 6)) (maxZ k (c 4 - c 6)) (by omega) (by omega) (by rw [rw_wr]; exact s2) tt.1 (by omega) (by omega) (by omega) (by omega) (by omega)
      refine ⟨v', ?_, fri_tr (fri_wr (by omega)) p2⟩
      have et : tkN (n0 - i) c = tkN (n0 - (i + 1)) (tkZ c) := by rw [hd, show n0 - (i + 1) + 1 = 1 + (n0 - (i + 1)) by omega, tkN_add]; rfl
      have ew : wbZ (n0 - i) c l k = wbZ (n0 - (i + 1)) (tkZ c) (minZ l (c 4 - c 6)) (maxZ k (c 4 - c 6)) := by rw [hd]; rfl
      rw [et, ew, show J (i : Int) + J 1 = J ((i + 1 : Nat) : Int) from (J_add _ _).symm]
      exact p1
    · have e0 : n0 - i = 0 := by omega
      have v6 : rw v b 6 = J (c 6) := hc 6 (by decide)
      rw [if_neg (fun z => by have := (J_lt (by omega) (by omega)).mp z; omega), grd_true _ hk, e0, gi_rw, v6]
      have e1 : (if (tkN 0 c) 6 ≤ 2000000 then wbZ 0 c l k else -1) = (if c 6 ≤ 2000000 then k - l else -1) := rfl
      rw [e1]
      rw [e0] at h4 h5
      by_cases y : c 6 ≤ 2000000
      · rw [if_neg (fun z => by have := (J_lt (by decide) (by omega)).mp z; omega), if_pos y, J_sub]
        exact ⟨v, rfl, fri_refl _ _ _⟩
      · rw [if_pos ((J_lt (by decide) (by omega)).mpr (by omega)), if_neg y]
        exact ⟨v, rfl, fri_refl _ _ _⟩
variable {S : shp} {v : vl} {a m N q : Nat} {h c g t p : Nat → Int} {M : Nat → Nat → Int} {sv : Option sta} {ps : List sta} {re ca ch : Int}
theorem gc_wobble {n : Int} (hN : 7000000 ≤ N) (hw : wfS S) (hR : cR S v a (h, c, g, t, p, M) sv ps re ca ch q) (hn : -2147483648 ≤ n ∧ n < 2147483648) :
    QC (F_gc_wobble N a (J n) S v) (fun _ => 0) (numO n (woZ c n.toNat)) (PC a (h, c, g, t, p, M) sv ps re ca ch q S v) := by
  obtain ⟨k0, g5, n0, r6, n1, r7, n2, hh, hc, hg⟩ := cR_now hR
  unfold F_gc_wobble numO
  rw [gc_within hn (by decide) (by decide)]
  by_cases z : 1 ≤ n ∧ n ≤ 1000
  · obtain ⟨S1, v1, s1, s2, R1, w1, x1⟩ := fresh_R (N := N) (by omega) hw hR (Or.inl rfl)
    obtain ⟨b0, b6, b1, b7, bl, b8, b5⟩ := id s2.1.1
    have hV := cR_V hR
    have hcV := hV.2.1
    have hb := hcV.2.1
    have hb0 : 0 ≤ c 4 := hcV.1.2.2.2.2.1
    have hb5 : 0 ≤ c 5 := hcV.1.2.2.2.2.2
    have tt := tkZ_inv hcV.1
    obtain ⟨f, p1, p2⟩ := ckW_tick b1 s2.1.2.2.1 (ckV_rng hcV) hcV.1 (by show c 4 ≤ _; omega) (by show c 5 ≤ _; omega)
    have e6 : tkZ c 6 = c 4 := rfl
    have e5 : tkZ c 5 = c 5 + 1 := rfl
    obtain ⟨v', y1, y2⟩ := gc_wobLoop (S := S1) (b := a + 17 + 1) (n0 := n.toNat) hN b1 (by omega) N 0 (wr v1 (a + 17 + 1) f) (tkZ c) 2000000 0 (by omega) (by omega) (by rw [rw_wr]; exact p2) tt.1 (by omega) (by omega) (by omega) (by decide) (by decide)
    rw [if_pos z, if_pos z, bx_r]
    refine ⟨S1, v', ?_, scr_P hR hw (Or.inl rfl) s2.1.1 (exi_tr x1 (exi_fri (fri_tr (fri_wr (by omega)) (fri_mono y2 (by omega) (by omega))))) (by decide) (by decide)⟩
    simp only [k0, grd_pos, (gr67 hR.1).1, Option.bind_some, s1, oc2, b0, b6, b1]
    rw [p1]
    simp only [Option.bind_some]
    have en : ((n.toNat : Nat) : Int) = n := by omega
    rw [Nat.sub_zero, en] at y1
    have ea : (tkN n.toNat (tkZ c)) 6 = (tkN n.toNat c) 4 := by
      have : tkN n.toNat (tkZ c) = tkN (n.toNat + 1) c := by rw [show n.toNat + 1 = 1 + n.toNat by omega, tkN_add]; rfl
      rw [this]
      rfl
    rw [ea] at y1
    unfold woZ
    exact y1
  · rw [if_neg z, if_neg z, bx_l]
    rfl
theorem gm_wobLoop {S : shp} {m N : Nat} {X : Nat → Int} {n0 : Nat} (hN : 7000000 ≤ N) (hl : mdL S m) (hn0 : n0 ≤ 1000) : ∀ (f i : Nat) (v : vl) (c g : Nat → Int) (l k : Int), i ≤ n0 → n0 - i < f → rw v (m + 1) = iz (mk X (c 6) c g) → mdI X (c 6) c g → (0 ≤ c 6 ∧ c 6 ≤ 2000000) → c 6 ≤ c 4 → (0 ≤ l ∧ l ≤ 300000000) → (0 ≤ k ∧ k ≤ 300000000) →
    BK m v (if (tkN (n0 - i) c) 6 ≤ 2000000 then wbZ (n0 - i) c l k else -1) (K_gm_wobble_41 N f S v m (J n0) (J l) (J k) (J i))
  | 0, i, v, c, g, l, k, _, h, _, _, _, _, _, _ => absurd h (Nat.not_lt_zero _)
  | f + 1, i, v, c, g, l, k, hi, hf, hw, hI, h6, h64, hl1, hkk => by
    have ne1 : ¬ J 1 = J 0 := by decide
    have hcI := hI.2.1
    have h4 := hI.2.2.1
    have b4 : 0 ≤ c 4 := hcI.2.2.2.2.1
    show BK m v _ (Y_gm_wobble_41 N (K_gm_wobble_41 N f S) S v m (J n0) (J l) (J k) (J i))
    unfold Y_gm_wobble_41
    by_cases q : i < n0
    · have hd : n0 - i = (n0 - (i + 1)) + 1 := by omega
      have et : tkN (n0 - i) c = tkN (n0 - (i + 1)) (tkZ c) := by rw [hd, show n0 - (i + 1) + 1 = 1 + (n0 - (i + 1)) by omega, tkN_add]; rfl
      have ew : wbZ (n0 - i) c l k = wbZ (n0 - (i + 1)) (tkZ c) (minZ l (c 4 - c 6)) (maxZ k (c 4 - c 6)) := by rw [hd]; rfl
      rw [if_pos ((J_lt (by omega) (by omega)).mpr (by omega)), grd_true _ hl.1, hl.2.1]
      simp only [Option.bind_some]
      rw [grd_true _ hl.2.2.1]
      have v0 : rw v (m + 1) 0 = J (c 6) := by rw [hw]; rfl
      by_cases y : c 4 ≤ 2000000
      · rw [(gm_waitsForC hN hl hw hI).1 y]
        simp only [Option.bind_some, ne1, if_false, gi_x, rw_wr, v0]
        have s1 : mdI X (tkZ c 6) (tkZ c) (sgK (mt X) (mp X) (3 * c 4) g) := (mdI_sgK (mdI_ck hI (by omega)) (by omega)).1
        have r0 : iz (mk X (c 4) (tkZ c) (sgK (mt X) (mp X) (3 * c 4) g)) 0 = J (c 4) := rfl
        rw [r0, ← J_sub, ma_minJ (by omega) (by omega)]
        simp only [Option.bind_some]
        rw [ma_maxJ (by omega) (by omega)]
        simp only [Option.bind_some]
        have hb1 := minZ_B (x := l) (y := c 4 - c 6)
        have hb2 := maxZ_B (x := k) (y := c 4 - c 6)
        have e6 : tkZ c 6 = c 4 := rfl
        have tt := tkZ_inv hcI
        refine BK_wr1 (R := iz (mk X (c 4) (tkZ c) (sgK (mt X) (mp X) (3 * c 4) g))) ?_
        rw [et, ew, show J (i : Int) + J 1 = J ((i + 1 : Nat) : Int) from (J_add _ _).symm]
        exact gm_wobLoop hN hl hn0 f (i + 1) _ (tkZ c) (sgK (mt X) (mp X) (3 * c 4) g) _ _ (by omega) (by omega) (by rw [rw_wr, e6]) s1 (by omega) (by omega) (by omega) (by omega)
      · obtain ⟨T', e1, -⟩ := (gm_waitsForC hN hl hw hI).2 (show 2000000 < c 4 by omega)
        have hm := tkN_mono hcI (show 0 ≤ n0 - (i + 1) by omega)
        have c0 : (tkN 0 c) 4 = c 4 := rfl
        have e7 : (tkN (n0 - i) c) 6 = (tkN (n0 - (i + 1)) c) 4 := by rw [hd]; rfl
        rw [e1]
        simp only [Option.bind_some, if_true]
        rw [if_neg (by omega)]
        refine BK_wr1 (R := iz (mk X T' c (sgK (mt X) (mp X) 6000002 g))) ?_
        exact BK_bind (BK_back hN hl)
    · have e0 : n0 - i = 0 := by omega
      have e1 : (if (tkN 0 c) 6 ≤ 2000000 then wbZ 0 c l k else -1) = k - l := if_pos h6.2
      rw [e0, e1, if_neg (show ¬ J (i : Int) < J (n0 : Int) from fun z => by have := (J_lt (by omega) (by omega)).mp z; omega), grd_true _ hl.1, ← J_sub]
      exact BK_bind (BK_back hN hl)
theorem gm_wobble {n : Int} (hN : 7000000 ≤ N) (hR : dR S v m (h, c, g, t, p, M) sv ps re ca ch) (hV : stV h c g t p M) (hn : -2147483648 ≤ n ∧ n < 2147483648) :
    QM (F_gm_wobble N m (J n) S v) (numO n (woZ c n.toNat)) (fun v' => mqt m v v' (oThr (numO n (woZ c n.toNat)))) := by
  obtain ⟨hl, h1, -⟩ := hR
  have n1 : ¬ J 1 = J 0 := by decide
  unfold F_gm_wobble
  rw [grd_true _ hl.1]
  simp only [lt_def, si_th]
  rw [gm_noNumber hl hn]
  unfold numO
  by_cases z : 1 ≤ n ∧ n ≤ 1000
  · rw [if_pos z, if_pos z]
    simp only [Option.bind_some, if_true]
    rw [gm_thinks (by omega) hl]
    simp only [Option.bind_some]
    obtain ⟨X, x0, x5, x6, x7, hag, hI⟩ := thinkX (v := th v m 0) (m := m) (h := h) (c := c) (g := g) (t := t) (p := p) (M := M) (th_rowM h1) hV
    have hcI : ckI c := hI.2.1
    have b4 : 0 ≤ c 4 := hcI.2.2.2.2.1
    have en : ((n.toNat : Nat) : Int) = n := by omega
    have main : BK m (wr (th v m 0) (m + 3) (cpR (rw (th v m 0) (m + 1)) (rw (th v m 0) (m + 3)) 0 0 199)) (woZ c n.toNat) ((F_gm_waitsFor N m (J 2) S (wr (th v m 0) (m + 3) (cpR (rw (th v m 0) (m + 1)) (rw (th v m 0) (m + 3)) 0 0 199))).bind fun (x6, w7) => (if x6 = (J 0) then (F_gm_back N m (J (-1)) S w7).bind fun (x8, w9) => some ((x8, w9)) else K_gm_wobble_41 N N S w7 m (J n) (J 2000000) (J 0) (J 0))) := by
      by_cases y : c 4 ≤ 2000000
      · rw [(gm_waitsForC hN hl x0 hI).1 y]
        simp only [Option.bind_some, n1, if_false]
        have s1 : mdI X (tkZ c 6) (tkZ c) (sgK (mt X) (mp X) (3 * c 4) g) := (mdI_sgK (mdI_ck hI (by omega)) (by omega)).1
        have e6 : tkZ c 6 = c 4 := rfl
        have tt := tkZ_inv hcI
        refine BK_wr1 (R := iz (mk X (c 4) (tkZ c) (sgK (mt X) (mp X) (3 * c 4) g))) ?_
        have := gm_wobLoop (n0 := n.toNat) hN hl (by omega) N 0 (wr (wr (th v m 0) (m + 3) (cpR (rw (th v m 0) (m + 1)) (rw (th v m 0) (m + 3)) 0 0 199)) (m + 1) (iz (mk X (c 4) (tkZ c) (sgK (mt X) (mp X) (3 * c 4) g)))) (tkZ c) (sgK (mt X) (mp X) (3 * c 4) g) 2000000 0 (by omega) (by omega) (by rw [rw_wr, e6]) s1 (by omega) (by omega) (by decide) (by decide)
        have ea : (tkN n.toNat (tkZ c)) 6 = (tkN n.toNat c) 4 := by
          have : tkN n.toNat (tkZ c) = tkN (n.toNat + 1) c := by rw [show n.toNat + 1 = 1 + n.toNat by omega, tkN_add]; rfl
          rw [this]
          rfl
        rw [Nat.sub_zero, en, ea] at this
        unfold woZ
        exact this
      · obtain ⟨T', e1, -⟩ := (gm_waitsForC hN hl x0 hI).2 (show 2000000 < c 4 by omega)
        have hm := tkN_mono hcI (show 0 ≤ n.toNat by omega)
        have c0 : (tkN 0 c) 4 = c 4 := rfl
        rw [e1]
        simp only [Option.bind_some, if_true]
        unfold woZ
        rw [if_neg (by omega)]
        refine BK_wr1 (R := iz (mk X T' c (sgK (mt X) (mp X) 6000002 g))) ?_
        exact BK_bind (BK_back hN hl)
    obtain ⟨v', e1, e2⟩ := BK_mq main
    exact ⟨v', e1, mqt_mq e2⟩
  · rw [if_neg z, if_neg z]
    simp only [Option.bind_some, n1, if_false]
    rw [th_th]
    exact ⟨_, rfl, mqt_th⟩
-- how far apart both ways are
def apZ (h c g t p : Nat → Int) : Int := if gW h c = 0 ∧ pW h c g t p = 0 then absZ (gM h c g t p 4 - pM h c g t p 4) else -1
theorem gc_apart (hN : 7000000 ≤ N) (hw : wfS S) (hR : cR S v a (h, c, g, t, p, M) sv ps re ca ch q) :
    QD (F_gc_apart N a S v) (apZ h c g t p) (PC a (h, c, g, t, p, M) sv ps re ca ch q S v) := by
  obtain ⟨k0, g5, n0, r6, n1, r7, n2, hh, hc, hg⟩ := cR_now hR
  obtain ⟨S1, v1, s1, s2, R1, w1, x1⟩ := fresh_R (N := N) (by omega) hw hR (Or.inl rfl)
  obtain ⟨b0, -⟩ := id s2.1.1
  have hV := cR_V hR
  have n10 : ¬ J 1 = J 0 := by decide
  obtain ⟨y1, y2⟩ := st_gate (G := (h 1).toNat) hN w1 s2.1 s2.2 hV.2.1 hV.2.2.1 hV.1 (by show h 1 = _; have := hV.1.2.1; omega)
  unfold F_gc_apart
  simp only [k0, grd_pos, (gr67 hR.1).1, Option.bind_some, s1, oc2, b0]
  unfold apZ
  by_cases y : (tkN (h 1).toNat c) 4 ≤ 2000000
  · obtain ⟨S2, v2, t1, t2, t3, t4⟩ := y1 y
    have x2 := exi_tr x1 t4
    obtain ⟨w2, R2, G2⟩ := scr_P (k := 1) (l := 7) hR hw (Or.inl rfl) t2.1 x2 (by decide) (by decide)
    have gV := gM_V hV.1 hV.2.1 hV.2.2.1 hV.2.2.2.1 hV.2.2.2.2.1 (gW_0.mpr y)
    rw [t1]
    simp only [Option.bind_some, if_true, (gr67 R2.1).2.1]
    obtain ⟨S3, v3, u1, u2, R3, w3, x3⟩ := fresh_R (N := N) (by omega) w2 R2 (Or.inr rfl)
    obtain ⟨c0, -⟩ := id u2.1.1
    have e17 : stM S3 v3 (a + 17) (hG h ((tkN (h 1).toNat c) 4)) (tkN ((h 1).toNat + 1) c) (gG t p (h 1).toNat c g) t p := stM_exi t2 w2 (by omega) x3
    have m17 : msR S3 v3 (a + 17 + 5) (kpN (h 5)) (kpM (h 5) M (gM h c g t p)) := msR_exi t3 (gcL_st R2.1 (by unfold isB; omega)) w2 t2.1.2.2.2.2.2.2 (by omega) x3
    obtain ⟨z1, z2, z3⟩ := st_period (G := (h 2).toNat) hN w3 u2.1 u2.2 hV.2.1 hV.2.2.1 hV.1 (by show h 2 = _; have := hV.1.2.2.1; omega)
    simp only [u1, Option.bind_some, oc2, c0, grd_pos]
    have fin : ∀ {S4 : shp} {v4 : vl} {k l : Nat}, stL S4 (a + 23) → exi (a + 23) 6 k l S3 v3 S4 v4 → k ≤ 1 → l ≤ 7 → PC a (h, c, g, t, p, M) sv ps re ca ch q S v S4 v4 := by
      intro S4 v4 k l hs he hk hl
      obtain ⟨P1, P2, P3⟩ := scr_P R3 w3 (Or.inr rfl) hs he (Nat.le_trans hk (by decide)) (Nat.le_trans hl (by decide))
      have G3 : exg a 0 0 S2 v2 S3 v3 := exg_exi x3 (by omega) (by decide) (by decide)
      have G4 : exg a 1 7 S3 v3 S4 v4 := exg_exi he (by omega) hk hl
      have G1 : exg a 1 7 S v S2 v2 := exg_exi x2 (by omega) (by decide) (by decide)
      exact ⟨P1, P2, exg_mono (exg_tr (exg_tr G1 G3) G4) (by decide) (by decide)⟩
    by_cases o : pW h c g t p = 0
    · obtain ⟨o1, o2⟩ := pW_0.mp o
      obtain ⟨S4, v4, t1', t2', t3', t4'⟩ := z1 o1 o2
      have P4 := fin t2'.1 t4' (by decide) (by decide)
      have pV := pM_V hV.1 hV.2.1 hV.2.2.1 o
      rw [t1']
      simp only [Option.bind_some, if_true, (gr67 P4.2.1.1).1, (gr67 P4.2.1.1).2.1, t2'.1.1, grd_pos]
      have f17 : stM S4 v4 (a + 17) (hG h ((tkN (h 1).toNat c) 4)) (tkN ((h 1).toNat + 1) c) (gG t p (h 1).toNat c g) t p := stM_exi e17 w3 (by omega) t4'
      have l17 : msR S4 v4 (a + 17 + 5) (kpN (h 5)) (kpM (h 5) M (gM h c g t p)) := msR_exi m17 (gcL_st R3.1 (by unfold isB; omega)) w3 e17.1.2.2.2.2.2.2 (by omega) t4'
      have L1 := st_latest_kp (w := 4) (h' := h) (show 100 ≤ N by omega) f17.1 (f17.2.1 5 (by decide)) hV.1.2.2.2.2 l17 hV.2.2.2.2.2 gV (by decide)
      have L2 : _ = some (J (mN (pM h c g t p) 4)) := st_latest_kp (w := 4) (h' := h) (show 100 ≤ N by omega) t2'.1 (t2'.2.1 5 (by decide)) hV.1.2.2.2.2 t3' hV.2.2.2.2.2 pV (by decide)
      have m4 : ∀ z : Nat → Int, mN z 4 = z 4 := fun z => rfl
      have b1 := gV.2.2.2.2.1
      have b2 := pV.2.2.2.2.1
      rw [grd_true _ f17.1.1, L1]
      simp only [Option.bind_some]
      rw [L2]
      simp only [Option.bind_some]
      rw [m4, m4, ← J_sub, ma_abs (by omega)]
      simp only [Option.bind_some]
      rw [if_pos ⟨gW_0.mpr y, o⟩]
      exact ⟨S4, v4, rfl, P4⟩
    · rw [if_neg (fun z => o z.2)]
      have n30 : ¬ J 3 = J 0 := by decide
      by_cases o1 : oN t p (h 2).toNat g = -1
      · have t1' := z3 o1
        have nn : ¬ (if sgK t p 6000002 g 0 = 0 then J 2 else J 1) = J 0 := by split <;> decide
        rw [t1']
        simp only [Option.bind_some]
        rw [if_neg nn]
        exact ⟨S3, v3, rfl, fin u2.1.1 exi_refl (by decide) (by decide)⟩
      · by_cases o2 : cO t p (h 2).toNat c g = 0
        · obtain ⟨v4, t1', t2'⟩ := z2 o1 o2
          rw [t1']
          simp only [Option.bind_some, n30, if_false]
          exact ⟨S3, v4, rfl, fin u2.1.1 (exi_fri t2') (by decide) (by decide)⟩
        · exact absurd (pW_0.mpr ⟨o1, o2⟩) o
  · obtain ⟨v2, t1, t2⟩ := y2 (show 2000000 < (tkN (h 1).toNat c) 4 by omega)
    rw [t1, if_neg (fun z => y (gW_0.mp z.1))]
    simp only [Option.bind_some, n10, if_false]
    exact ⟨S1, v2, rfl, scr_P hR hw (Or.inl rfl) s2.1.1 (exi_tr x1 (exi_fri t2)) (by decide) (by decide)⟩
theorem gm_apart (hN : 7000000 ≤ N) (hR : dR S v m (h, c, g, t, p, M) sv ps re ca ch) (hV : stV h c g t p M) :
    QM (F_gm_apart N m S v) (.inr (apZ h c g t p)) (fun v' => mqt m v v' 0) := by
  obtain ⟨hl, h1, -⟩ := hR
  have h8 := (stV_8 hV).2.2
  have h5 := hV.1.2.2.2.2.2
  obtain ⟨v1, e1, m1⟩ := (gm_foretold (v := th v m 0) (x := 4) hN hl (th_rowM h1) hV (by decide)).1
  have R1 : rowM (rw v1 (m + 1)) h c g t p M := rowM_ag (th_rowM h1) h8 h5 m1.2.2.2
  obtain ⟨v2, e2, m2⟩ := (gm_foretold (v := v1) (x := 4) hN hl R1 hV (by decide)).2
  have mm := mqt_mq (mq_tr m1 m2)
  have m4 : ∀ z : Nat → Int, mN z 4 = z 4 := fun z => rfl
  unfold F_gm_apart
  rw [grd_true _ hl.1]
  simp only [lt_def, si_th]
  rw [e1]
  simp only [Option.bind_some]
  rw [e2]
  simp only [Option.bind_some]
  unfold fG fP apZ
  by_cases y : gW h c = 0
  · have gV := gM_V hV.1 hV.2.1 hV.2.2.1 hV.2.2.2.1 hV.2.2.2.2.1 y
    have b1 := gV.2.2.2.2.1
    rw [if_pos y, m4, if_neg (fun z => by have := (J_eq (by omega) (by decide)).mp z; omega)]
    by_cases o : pW h c g t p = 0
    · have pV := pM_V hV.1 hV.2.1 hV.2.2.1 o
      have b2 := pV.2.2.2.2.1
      rw [if_pos o, m4, if_neg (fun z => by have := (J_eq (by omega) (by decide)).mp z; omega), if_pos ⟨y, o⟩, ← J_sub, ma_abs (by omega)]
      exact ⟨v2, rfl, mm⟩
    · rw [if_neg o, if_pos rfl, if_neg (fun z => o z.2)]
      exact ⟨v2, rfl, mm⟩
  · rw [if_neg y, if_pos rfl, if_neg (fun z => y z.1)]
    exact ⟨v2, rfl, mm⟩
end IDEAL
