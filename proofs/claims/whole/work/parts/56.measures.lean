/-! The model's measurements. -/
section MEASURES
def bgN (f : Nat → Int32) (T e : Int) : Nat → Int32 := up (up (up f 11 (J T)) 13 (J 0)) 14 (J e)
def eqX (f f' : Nat → Int32) : Prop := ∀ k, k < 11 ∨ 15 < k → f' k = f k
theorem eqX_refl (f : Nat → Int32) : eqX f f := fun _ _ => rfl
theorem eqX_tr {f g h : Nat → Int32} (a : eqX f g) (b : eqX g h) : eqX f h := fun k hk => (b k hk).trans (a k hk)
theorem eqX_bgN (f : Nat → Int32) (T e : Int) : eqX f (bgN f T e) := fun k hk => by unfold bgN; rw [up_ne (by omega), up_ne (by omega), up_ne (by omega)]
theorem eqX_fdC (f : Nat → Int32) (q T e : Int) : eqX f (fdC f q T e) := fun k hk => by unfold fdC; rw [up_ne (by omega), up_ne (by omega), up_ne (by omega)]
theorem up_comm {f : Nat → Int32} {i j : Nat} {x y : Int32} (h : i ≠ j) : up (up f i x) j y = up (up f j y) i x := by
  funext k
  unfold up
  by_cases h1 : k = j
  · subst h1; rw [if_pos rfl, if_neg (fun q => h q.symm), if_pos rfl]
  · rw [if_neg h1]
    by_cases h2 : k = i
    · rw [if_pos h2, if_pos h2]
    · rw [if_neg h2, if_neg h2, if_neg h1]
theorem fdC_fdC {f : Nat → Int32} {q T e q' T' e' : Int} : fdC (fdC f q T e) q' T' e' = fdC f q' T' e' := by
  unfold fdC
  funext k
  unfold up
  split
  · rfl
  · rename_i h15
    split
    · rfl
    · rename_i h12
      split
      · rfl
      · rfl
theorem fdC_13 {f : Nat → Int32} {q T e : Int} : fdC f q T e 13 = J q := rfl
theorem gm_beginsNow {S : shp} {v : vl} {m : Nat} {X : Nat → Int} {T : Int} {c g : Nat → Int} (hl : mdL S m) (hw : rw v (m + 1) = iz (mk X T c g)) : F_gm_beginsNow m S v = some (wr v m (bgN (rw v m) T (g 2))) := by
  have ne1 : m + 1 ≠ m := by omega
  unfold F_gm_beginsNow
  rw [grd_true _ hl.1, hl.2.1]
  simp only [Option.bind_some]
  rw [grd_true _ hl.2.2.1]
  simp only [lt_def, si_wr, gi_x, rw_wr, wr_wr, rw_wr_ne ne1, hw]
  rfl
def gG (t p : Nat → Int) (k : Nat) (c g : Nat → Int) : Nat → Int := sgK t p (3 * (tkN k c) 4) g
theorem mdI_tkN {X : Nat → Int} {T : Int} {c g : Nat → Int} (hI : mdI X T c g) : ∀ k : Nat, (tkN k c) 4 ≤ 2000000 → mdI X ((tkN k c) 4) (tkN (k + 1) c) g
  | 0, h => mdI_ck hI (Int.le_trans h (by decide))
  | k + 1, h => by
    have := tkN_mono hI.2.1 (show k ≤ k + 1 by omega)
    exact mdI_ck (mdI_tkN hI k (by omega)) (Int.le_trans h (by decide))
theorem mdI_gG {X : Nat → Int} {T : Int} {c g : Nat → Int} (hI : mdI X T c g) {k : Nat} (h : (tkN k c) 4 ≤ 2000000) : mdI X ((tkN k c) 4) (tkN (k + 1) c) (gG (mt X) (mp X) k c g) :=
  (mdI_sgK (mdI_tkN hI k h) (by omega)).1
theorem gG_next {X : Nat → Int} {T : Int} {c g : Nat → Int} (hI : mdI X T c g) {k : Nat} (h : (tkN (k + 1) c) 4 ≤ 2000000) : sgK (mt X) (mp X) (3 * (tkN (k + 1) c) 4) (gG (mt X) (mp X) k c g) = gG (mt X) (mp X) (k + 1) c g := by
  obtain ⟨⟨u, hJ, q0, q1⟩, hc, -⟩ := hI
  have := tkN_mono hc (show k ≤ k + 1 by omega)
  exact sgK_K hJ q0 q1 (by omega) (by omega)
theorem gG_3 {X : Nat → Int} {T : Int} {c g : Nat → Int} (hI : mdI X T c g) {k : Nat} (h : (tkN k c) 4 ≤ 2000000) : 0 ≤ gG (mt X) (mp X) k c g 3 ∧ gG (mt X) (mp X) k c g 3 ≤ gG (mt X) (mp X) k c g 2 ∧ gG (mt X) (mp X) k c g 2 ≤ 2100000 := by
  obtain ⟨u, hJ, q0, q1⟩ := (mdI_gG hI h).1
  have := hJ.1.2.2.2.1
  omega
theorem gm_gateLoop {S : shp} {m N : Nat} {X : Nat → Int} {T : Int} {c g : Nat → Int} {G : Nat} (hN : 7000000 ≤ N) (hl : mdL S m) (hI : mdI X T c g) (hG : X 5 = G) (hG2 : G ≤ 9999) (he : (tkN G c) 4 ≤ 2000000) : ∀ (n k : Nat) (v : vl), k ≤ G → G - k < n → rw v (m + 1) = iz (mk X ((tkN k c) 4) (tkN (k + 1) c) (gG (mt X) (mp X) k c g)) → rw v m 13 = J (gG (mt X) (mp X) k c g 3 - gG (mt X) (mp X) 0 c g 3) →
    K_gm_measuresGate_16 N n S v m (J k) = some (J 0, wr (wr v m (if k = G then rw v m else fdC (rw v m) (gG (mt X) (mp X) G c g 3 - gG (mt X) (mp X) 0 c g 3) ((tkN G c) 4) (gG (mt X) (mp X) G c g 2))) (m + 1) (iz (mk X ((tkN G c) 4) (tkN (G + 1) c) (gG (mt X) (mp X) G c g))))
  | 0, k, v, _, h, _, _ => absurd h (Nat.not_lt_zero _)
  | n + 1, k, v, hk, hn, hw, hq => by
    have ne1 : m + 1 ≠ m := by omega
    have tk : (J k).toInt = k := J_toInt (by omega) (by omega)
    have r5 : rw v (m + 1) 5 = J (X 5) := by rw [hw]; rfl
    have t5 : (J (X 5)).toInt = G := by rw [hG]; exact J_toInt (by omega) (by omega)
    have hle : ∀ j : Nat, j ≤ G → (tkN j c) 4 ≤ 2000000 := fun j hj => by
      have := tkN_mono hI.2.1 hj
      omega
    show Y_gm_measuresGate_16 N (K_gm_measuresGate_16 N n S) S v m (J k) = _
    unfold Y_gm_measuresGate_16
    rw [grd_true _ hl.1, hl.2.1]
    simp only [Option.bind_some]
    rw [grd_true _ hl.2.2.1, gi_rw, r5]
    by_cases q : k = G
    · subst q
      rw [if_neg (fun z => by have := i_lt.mp z; rw [tk, t5] at this; omega), if_pos rfl, wr_self, ← hw, wr_self]
    · have h1 := gG_3 hI (hle k hk)
      have h2 := gG_3 hI (hle 0 (by omega))
      have := (gm_countsToC hN hl hw (mdI_gG hI (hle k hk))).1 (hle (k + 1) (by omega)) _ hq (by omega)
      rw [if_pos (i_lt.mpr (by rw [tk, t5]; omega)), this]
      have n1 : ¬ J 1 = J 0 := by decide
      simp only [Option.bind_some, n1, if_false]
      have jk : J (k : Int) + J 1 = J ((k + 1 : Nat) : Int) := by
        refine i_eq.mpr ?_
        rw [i_add, tk, tJ, J_toInt (by omega) (by omega)]
        · omega
        · rw [tk, tJ]; omega
        · rw [tk, tJ]; omega
      have e := gG_next hI (hle (k + 1) (by omega))
      rw [jk, e]
      refine Eq.trans (gm_gateLoop hN hl hI hG hG2 he n (k + 1) (wr (wr v m (fdC (rw v m) (gG (mt X) (mp X) k c g 3 - gG (mt X) (mp X) 0 c g 3 + (gG (mt X) (mp X) (k + 1) c g 3 - gG (mt X) (mp X) k c g 3)) ((tkN (k + 1) c) 4) (gG (mt X) (mp X) (k + 1) c g 2))) (m + 1) (iz (mk X ((tkN (k + 1) c) 4) (tkZ (tkN (k + 1) c)) (gG (mt X) (mp X) (k + 1) c g)))) (by omega) (by omega) rw_wr (by rw [rw_wr_ne ne1.symm, rw_wr, fdC_13, show gG (mt X) (mp X) k c g 3 - gG (mt X) (mp X) 0 c g 3 + (gG (mt X) (mp X) (k + 1) c g 3 - gG (mt X) (mp X) k c g 3) = gG (mt X) (mp X) (k + 1) c g 3 - gG (mt X) (mp X) 0 c g 3 by omega])) ?_
      rw [rw_wr_ne ne1.symm, rw_wr, wr_comm ne1, wr_wr, wr_wr, if_neg q]
      by_cases q2 : k + 1 = G
      · subst q2
        rw [if_pos rfl, show gG (mt X) (mp X) k c g 3 - gG (mt X) (mp X) 0 c g 3 + (gG (mt X) (mp X) (k + 1) c g 3 - gG (mt X) (mp X) k c g 3) = gG (mt X) (mp X) (k + 1) c g 3 - gG (mt X) (mp X) 0 c g 3 by omega]
      · rw [if_neg q2, fdC_fdC]
theorem gm_gateLoop0 {S : shp} {m N : Nat} {X : Nat → Int} {T : Int} {c g : Nat → Int} {G : Nat} (hN : 7000000 ≤ N) (hl : mdL S m) (hI : mdI X T c g) (hG : X 5 = G) (hG2 : G ≤ 9999) (he : 2000000 < (tkN G c) 4) : ∀ (n k : Nat) (v : vl), k ≤ G → G - k < n → (tkN k c) 4 ≤ 2000000 → rw v (m + 1) = iz (mk X ((tkN k c) 4) (tkN (k + 1) c) (gG (mt X) (mp X) k c g)) → rw v m 13 = J (gG (mt X) (mp X) k c g 3 - gG (mt X) (mp X) 0 c g 3) →
    ∃ f' R', K_gm_measuresGate_16 N n S v m (J k) = some (J 1, wr (wr v m f') (m + 1) R') ∧ eqX (rw v m) f'
  | 0, k, v, _, h, _, _, _ => absurd h (Nat.not_lt_zero _)
  | n + 1, k, v, hk, hn, h4, hw, hq => by
    have ne1 : m + 1 ≠ m := by omega
    have tk : (J k).toInt = k := J_toInt (by omega) (by omega)
    have r5 : rw v (m + 1) 5 = J (X 5) := by rw [hw]; rfl
    have t5 : (J (X 5)).toInt = G := by rw [hG]; exact J_toInt (by omega) (by omega)
    have hkG : k ≠ G := fun q => by subst q; omega
    have hY : K_gm_measuresGate_16 N (n + 1) S v m (J k) = (F_gm_countsTo N m (J 2) (J 4) S v).bind fun (x9, w10) => (if x9 = (J 0) then some (((J 1), w10)) else K_gm_measuresGate_16 N n S w10 m (J k + (J 1))) := by
      show Y_gm_measuresGate_16 N (K_gm_measuresGate_16 N n S) S v m (J k) = _
      unfold Y_gm_measuresGate_16
      rw [grd_true _ hl.1, hl.2.1]
      simp only [Option.bind_some]
      rw [grd_true _ hl.2.2.1, gi_rw, r5, if_pos (i_lt.mpr (by rw [tk, t5]; omega))]
    rw [hY]
    by_cases q : (tkN (k + 1) c) 4 ≤ 2000000
    · have h1 := gG_3 hI h4
      have h2 := gG_3 hI (show (tkN 0 c) 4 ≤ 2000000 by have := tkN_mono hI.2.1 (show 0 ≤ k by omega); omega)
      have := (gm_countsToC hN hl hw (mdI_gG hI h4)).1 q _ hq (by omega)
      rw [this]
      have n1 : ¬ J 1 = J 0 := by decide
      simp only [Option.bind_some, n1, if_false]
      have jk : J (k : Int) + J 1 = J ((k + 1 : Nat) : Int) := by
        refine i_eq.mpr ?_
        rw [i_add, tk, tJ, J_toInt (by omega) (by omega)]
        · omega
        · rw [tk, tJ]; omega
        · rw [tk, tJ]; omega
      have e := gG_next hI q
      rw [jk, e]
      obtain ⟨f', R', r1, r2⟩ := gm_gateLoop0 hN hl hI hG hG2 he n (k + 1) (wr (wr v m (fdC (rw v m) (gG (mt X) (mp X) k c g 3 - gG (mt X) (mp X) 0 c g 3 + (gG (mt X) (mp X) (k + 1) c g 3 - gG (mt X) (mp X) k c g 3)) ((tkN (k + 1) c) 4) (gG (mt X) (mp X) (k + 1) c g 2))) (m + 1) (iz (mk X ((tkN (k + 1) c) 4) (tkZ (tkN (k + 1) c)) (gG (mt X) (mp X) (k + 1) c g)))) (by omega) (by omega) q rw_wr (by rw [rw_wr_ne ne1.symm, rw_wr, fdC_13, show gG (mt X) (mp X) k c g 3 - gG (mt X) (mp X) 0 c g 3 + (gG (mt X) (mp X) (k + 1) c g 3 - gG (mt X) (mp X) k c g 3) = gG (mt X) (mp X) (k + 1) c g 3 - gG (mt X) (mp X) 0 c g 3 by omega])
      refine ⟨f', R', ?_, ?_⟩
      · rw [r1, wr_comm ne1, wr_wr, wr_wr]
      · rw [rw_wr_ne ne1.symm, rw_wr] at r2
        exact eqX_tr (eqX_fdC _ _ _ _) r2
    · obtain ⟨T', f', r1, -, r3⟩ := (gm_countsToC hN hl hw (mdI_gG hI h4)).2 (show 2000000 < (tkN (k + 1) c) 4 by omega)
      rw [r1]
      simp only [Option.bind_some, if_true]
      exact ⟨f', _, rfl, r3⟩
theorem gm_measuresGate {S : shp} {v : vl} {m N : Nat} {X : Nat → Int} {T : Int} {c g : Nat → Int} {G : Nat} (hN : 7000000 ≤ N) (hl : mdL S m) (hw : rw v (m + 1) = iz (mk X T c g)) (hI : mdI X T c g) (hG : X 5 = G) (hG1 : 1 ≤ G ∧ G ≤ 9999) :
    ((tkN G c) 4 ≤ 2000000 → F_gm_measuresGate N m S v = some (J 0, wr (wr v m (fdC (bgN (rw v m) (c 4) (gG (mt X) (mp X) 0 c g 2)) (gG (mt X) (mp X) G c g 3 - gG (mt X) (mp X) 0 c g 3) ((tkN G c) 4) (gG (mt X) (mp X) G c g 2))) (m + 1) (iz (mk X ((tkN G c) 4) (tkN (G + 1) c) (gG (mt X) (mp X) G c g))))) ∧
    (2000000 < (tkN G c) 4 → ∃ f' R', F_gm_measuresGate N m S v = some (J 1, wr (wr v m f') (m + 1) R') ∧ eqX (rw v m) f') := by
  have ne1 : m + 1 ≠ m := by omega
  have hm := tkN_mono hI.2.1 (show 0 ≤ G by omega)
  have n1 : ¬ J 1 = J 0 := by decide
  have c0 : (tkN 0 c) 4 = c 4 := rfl
  unfold F_gm_measuresGate
  rw [grd_true _ hl.1]
  have start : c 4 ≤ 2000000 → ∀ R, R = iz (mk X (c 4) (tkZ c) (sgK (mt X) (mp X) (3 * c 4) g)) → F_gm_beginsNow m S (wr v (m + 1) R) = some (wr (wr v m (bgN (rw v m) (c 4) (gG (mt X) (mp X) 0 c g 2))) (m + 1) R) := by
    intro h4 R hR
    subst hR
    rw [gm_beginsNow hl rw_wr, rw_wr_ne ne1.symm, wr_comm ne1]
    rfl
  refine ⟨fun he => ?_, fun he => ?_⟩
  · have h4 : c 4 ≤ 2000000 := by omega
    rw [(gm_waitsForC hN hl hw hI).1 h4]
    simp only [Option.bind_some, n1, if_false]
    rw [start h4 _ rfl]
    simp only [Option.bind_some]
    have := gm_gateLoop hN hl hI hG hG1.2 he N 0 (wr (wr v m (bgN (rw v m) (c 4) (gG (mt X) (mp X) 0 c g 2))) (m + 1) (iz (mk X (c 4) (tkZ c) (sgK (mt X) (mp X) (3 * c 4) g)))) (by omega) (by omega) rw_wr (by rw [rw_wr_ne ne1.symm, rw_wr, Int.sub_self]; rfl)
    rw [show J 0 = J ((0 : Nat) : Int) from rfl, this, if_neg (by omega), rw_wr_ne ne1.symm, rw_wr, wr_comm ne1, wr_wr, wr_wr]
    rfl
  · by_cases h4 : c 4 ≤ 2000000
    · rw [(gm_waitsForC hN hl hw hI).1 h4]
      simp only [Option.bind_some, n1, if_false]
      rw [start h4 _ rfl]
      simp only [Option.bind_some]
      obtain ⟨f', R', r1, r2⟩ := gm_gateLoop0 hN hl hI hG hG1.2 he N 0 (wr (wr v m (bgN (rw v m) (c 4) (gG (mt X) (mp X) 0 c g 2))) (m + 1) (iz (mk X (c 4) (tkZ c) (sgK (mt X) (mp X) (3 * c 4) g)))) (by omega) (by omega) h4 rw_wr (by rw [rw_wr_ne ne1.symm, rw_wr, Int.sub_self]; rfl)
      refine ⟨f', R', ?_, ?_⟩
      · rw [show J 0 = J ((0 : Nat) : Int) from rfl, r1, wr_comm ne1, wr_wr, wr_wr]
      · rw [rw_wr_ne ne1.symm, rw_wr] at r2
        exact eqX_tr (eqX_bgN _ _ _) r2
    · obtain ⟨T', r1, -⟩ := (gm_waitsForC hN hl hw hI).2 (show 2000000 < c 4 by omega)
      rw [r1]
      simp only [Option.bind_some, if_true]
      exact ⟨rw v m, iz (mk X T' c (sgK (mt X) (mp X) 6000002 g)), by rw [wr_self], eqX_refl _⟩
-- by period
theorem mdI_ckK {X : Nat → Int} {T T' : Int} {c g : Nat → Int} (hI : mdI X T c g) (hT : T' ≤ 2100000) : mdI X T (ckK T' c) g ∧ c 5 ≤ ckK T' c 5 := by
  obtain ⟨h0, h1, h2, hX, hT0, h6, h7⟩ := hI
  obtain ⟨⟨m1, m2, m3, m4⟩, k1, k2⟩ := ckK_M (T := T') h1 (fun d => d 4 ≤ 2101000 ∧ 9 * d 5 ≤ d 4 ∧ (0 ≤ d 6 ∧ d 6 ≤ 2100000) ∧ c 5 ≤ d 5) ⟨h2.1, h2.2, h6, Int.le_refl _⟩ (fun d hd hM hd4 => by
    obtain ⟨m1, m2, m3, m4⟩ := hM
    have k := tkZ_inv hd
    have k0 := hd.2.2.2.2.1
    refine ⟨by omega, ?_, ⟨k0, by show d 4 ≤ _; omega⟩, ?_⟩
    · show 9 * (d 5 + 1) ≤ _; omega
    · show c 5 ≤ d 5 + 1; omega)
  exact ⟨⟨h0, k1, ⟨m1, m2⟩, hX, hT0, m3, h7⟩, m4⟩
theorem mdI_O {X : Nat → Int} {T : Int} {c g : Nat → Int} (hI : mdI X T c g) {i : Nat} (h : oN (mt X) (mp X) i g ≠ -1) : mdI X (oN (mt X) (mp X) i g) (ckK (oN (mt X) (mp X) i g) c) (sgK (mt X) (mp X) (3 * oN (mt X) (mp X) i g + 2) g) := by
  obtain ⟨⟨u, hJ, q0, q1⟩, -⟩ := id hI
  have hb := (oN_at hJ q0 q1 h).2.2.2.2
  exact mdI_end (mdI_sgK (mdI_ckK hI (by omega)).1 (by omega)).1 (by omega)
theorem O_next {X : Nat → Int} {T : Int} {c g : Nat → Int} (hI : mdI X T c g) {i : Nat} (h : oN (mt X) (mp X) (i + 1) g ≠ -1) : ckK (oN (mt X) (mp X) (i + 1) g) (ckK (oN (mt X) (mp X) i g) c) = ckK (oN (mt X) (mp X) (i + 1) g) c ∧ sgK (mt X) (mp X) (3 * oN (mt X) (mp X) (i + 1) g + 2) (sgK (mt X) (mp X) (3 * oN (mt X) (mp X) i g + 2) g) = sgK (mt X) (mp X) (3 * oN (mt X) (mp X) (i + 1) g + 2) g := by
  obtain ⟨⟨u, hJ, q0, q1⟩, hc, -⟩ := id hI
  obtain ⟨h1, h2⟩ := oN_lt hJ q0 q1 h
  have hb := (oN_at hJ q0 q1 h).2.2.2.2
  exact ⟨ckK_K hc (by omega), sgK_K hJ q0 q1 (by omega) (by omega)⟩
theorem gm_late {S : shp} {v : vl} {m : Nat} {X : Nat → Int} {T : Int} {c g : Nat → Int} (hl : mdL S m) (hw : rw v (m + 1) = iz (mk X T c g)) (h : sgB g) : F_gm_lateOrSilent m S v = some (if g 0 = 0 then J 2 else J 1) := by
  have r : rw v (m + 1) 12 = J (g 0) := by rw [hw]; rfl
  have t0 : (J (g 0)).toInt = g 0 := J_toInt (by have := h.1; omega) (by have := h.1; omega)
  unfold F_gm_lateOrSilent
  rw [grd_true _ hl.1, hl.2.1]
  simp only [Option.bind_some]
  rw [grd_true _ hl.2.2.1, gi_rw, r]
  by_cases q : g 0 = 0
  · rw [if_pos (i_eq.mpr (by rw [t0, tJ]; exact q)), if_pos q]
  · rw [if_neg (fun z => q (by have := i_eq.mp z; rw [t0, tJ] at this; exact this)), if_neg q]
/-- clock edges since the first output -/
def cO (t p : Nat → Int) (i : Nat) (c g : Nat → Int) : Int := ckK (oN t p i g) c 5 - ckK (oN t p 0 g) c 5
theorem gm_periodLoop {S : shp} {m N : Nat} {X : Nat → Int} {T : Int} {c g : Nat → Int} {G : Nat} (hN : 7000000 ≤ N) (hl : mdL S m) (hI : mdI X T c g) (hG : X 6 = G) (hG2 : G ≤ 999) (he : oN (mt X) (mp X) G g ≠ -1) : ∀ (n k : Nat) (v : vl), k ≤ G → G - k < n → rw v (m + 1) = iz (mk X (oN (mt X) (mp X) k g) (ckK (oN (mt X) (mp X) k g) c) (sgK (mt X) (mp X) (3 * oN (mt X) (mp X) k g + 2) g)) → rw v m 13 = J (cO (mt X) (mp X) k c g) →
    K_gm_measuresPeriod_19 N n S v m (J k) = some (if cO (mt X) (mp X) G c g = 0 then J 3 else J 0, wr (wr v m (if k = G then rw v m else fdC (rw v m) (cO (mt X) (mp X) G c g) (oN (mt X) (mp X) G g) (sgK (mt X) (mp X) (3 * oN (mt X) (mp X) G g + 2) g 2))) (m + 1) (iz (mk X (oN (mt X) (mp X) G g) (ckK (oN (mt X) (mp X) G g) c) (sgK (mt X) (mp X) (3 * oN (mt X) (mp X) G g + 2) g))))
  | 0, k, v, _, h, _, _ => absurd h (Nat.not_lt_zero _)
  | n + 1, k, v, hk, hn, hw, hq => by
    have ne1 : m + 1 ≠ m := by omega
    have tk : (J k).toInt = k := J_toInt (by omega) (by omega)
    have r5 : rw v (m + 1) 6 = J (X 6) := by rw [hw]; rfl
    have t5 : (J (X 6)).toInt = G := by rw [hG]; exact J_toInt (by omega) (by omega)
    obtain ⟨⟨u, hJ, q0, q1⟩, hc, -⟩ := id hI
    have hle : ∀ j : Nat, j ≤ G → oN (mt X) (mp X) j g ≠ -1 := fun j hj => (oN_le hJ q0 q1 he hj).1
    have bc : ∀ j : Nat, j ≤ G → 0 ≤ ckK (oN (mt X) (mp X) j g) c 5 ∧ ckK (oN (mt X) (mp X) j g) c 5 ≤ 300000 := fun j hj => by
      obtain ⟨-, i1, i2, -⟩ := mdI_O hI (hle j hj)
      have := i1.2.2.2.2
      omega
    have b0 := bc 0 (by omega)
    have bk := bc k hk
    have bG := bc G (Nat.le_refl _)
    show Y_gm_measuresPeriod_19 N (K_gm_measuresPeriod_19 N n S) S v m (J k) = _
    unfold Y_gm_measuresPeriod_19
    rw [grd_true _ hl.1, hl.2.1]
    simp only [Option.bind_some]
    rw [grd_true _ hl.2.2.1, gi_rw, r5, gi_rw, hq]
    by_cases q : k = G
    · subst q
      rw [if_neg (fun z => by have := i_lt.mp z; rw [tk, t5] at this; omega), if_pos rfl, wr_self, ← hw, wr_self]
      have tc : (J (cO (mt X) (mp X) k c g)).toInt = cO (mt X) (mp X) k c g := J_toInt (by unfold cO; omega) (by unfold cO; omega)
      by_cases z : cO (mt X) (mp X) k c g = 0
      · rw [if_pos (i_eq.mpr (by rw [tc, tJ]; exact z)), if_pos z]
      · rw [if_neg (fun y => z (by have := i_eq.mp y; rw [tc, tJ] at this; exact this)), if_neg z]
    · have hnx := oN_next hJ q0 q1 (hle k hk)
      have h1 := hle (k + 1) (by omega)
      have bk1 := bc (k + 1) (by omega)
      have := (gm_countsToO hN hl hw (mdI_O hI (hle k hk))).1 _ _ h1 hnx hq (by unfold cO; omega)
      rw [if_pos (i_lt.mpr (by rw [tk, t5]; omega)), this]
      have n1 : ¬ J 1 = J 0 := by decide
      simp only [Option.bind_some, n1, if_false]
      have jk : J (k : Int) + J 1 = J ((k + 1 : Nat) : Int) := by
        refine i_eq.mpr ?_
        rw [i_add, tk, tJ, J_toInt (by omega) (by omega)]
        · omega
        · rw [tk, tJ]; omega
        · rw [tk, tJ]; omega
      obtain ⟨e1, e2⟩ := O_next hI h1
      have ec : cO (mt X) (mp X) k c g + (ckK (oN (mt X) (mp X) (k + 1) g) c 5 - ckK (oN (mt X) (mp X) k g) c 5) = cO (mt X) (mp X) (k + 1) c g := by unfold cO; omega
      rw [jk, e1, e2, ec]
      refine Eq.trans (gm_periodLoop hN hl hI hG hG2 he n (k + 1) (wr (wr v m (fdC (rw v m) (cO (mt X) (mp X) (k + 1) c g) (oN (mt X) (mp X) (k + 1) g) (sgK (mt X) (mp X) (3 * oN (mt X) (mp X) (k + 1) g + 2) g 2))) (m + 1) (iz (mk X (oN (mt X) (mp X) (k + 1) g) (ckK (oN (mt X) (mp X) (k + 1) g) c) (sgK (mt X) (mp X) (3 * oN (mt X) (mp X) (k + 1) g + 2) g)))) (by omega) (by omega) rw_wr (by rw [rw_wr_ne ne1.symm, rw_wr, fdC_13])) ?_
      rw [rw_wr_ne ne1.symm, rw_wr, wr_comm ne1, wr_wr, wr_wr, if_neg q]
      by_cases q2 : k + 1 = G
      · subst q2
        rw [if_pos rfl]
      · rw [if_neg q2, fdC_fdC]
theorem gm_periodLoop0 {S : shp} {m N : Nat} {X : Nat → Int} {T : Int} {c g : Nat → Int} {G : Nat} (hN : 7000000 ≤ N) (hl : mdL S m) (hI : mdI X T c g) (hG : X 6 = G) (hG2 : G ≤ 999) (he : oN (mt X) (mp X) G g = -1) : ∀ (n k : Nat) (v : vl), k ≤ G → G - k < n → oN (mt X) (mp X) k g ≠ -1 → rw v (m + 1) = iz (mk X (oN (mt X) (mp X) k g) (ckK (oN (mt X) (mp X) k g) c) (sgK (mt X) (mp X) (3 * oN (mt X) (mp X) k g + 2) g)) → rw v m 13 = J (cO (mt X) (mp X) k c g) →
    ∃ f' R', K_gm_measuresPeriod_19 N n S v m (J k) = some (if sgK (mt X) (mp X) 6000002 g 0 = 0 then J 2 else J 1, wr (wr v m f') (m + 1) R') ∧ eqX (rw v m) f'
  | 0, k, v, _, h, _, _, _ => absurd h (Nat.not_lt_zero _)
  | n + 1, k, v, hk, hn, h4, hw, hq => by
    have ne1 : m + 1 ≠ m := by omega
    have tk : (J k).toInt = k := J_toInt (by omega) (by omega)
    have r5 : rw v (m + 1) 6 = J (X 6) := by rw [hw]; rfl
    have t5 : (J (X 6)).toInt = G := by rw [hG]; exact J_toInt (by omega) (by omega)
    obtain ⟨⟨u, hJ, q0, q1⟩, hc, -⟩ := id hI
    have hkG : k ≠ G := fun q => by subst q; exact h4 he
    have bc : ∀ j : Nat, oN (mt X) (mp X) j g ≠ -1 → 0 ≤ ckK (oN (mt X) (mp X) j g) c 5 ∧ ckK (oN (mt X) (mp X) j g) c 5 ≤ 300000 := fun j hj => by
      obtain ⟨-, i1, i2, -⟩ := mdI_O hI hj
      have := i1.2.2.2.2
      omega
    have b0 := bc 0 (oN_le hJ q0 q1 h4 (Nat.zero_le k)).1
    have bk := bc k h4
    have hY : K_gm_measuresPeriod_19 N (n + 1) S v m (J k) = (F_gm_countsTo N m (J 4) (J 2) S v).bind fun (x10, w11) => (if x10 = (J 0) then (F_gm_lateOrSilent m S w11).bind fun x12 => some ((x12, w11)) else K_gm_measuresPeriod_19 N n S w11 m (J k + (J 1))) := by
      show Y_gm_measuresPeriod_19 N (K_gm_measuresPeriod_19 N n S) S v m (J k) = _
      unfold Y_gm_measuresPeriod_19
      rw [grd_true _ hl.1, hl.2.1]
      simp only [Option.bind_some]
      rw [grd_true _ hl.2.2.1, gi_rw, r5, if_pos (i_lt.mpr (by rw [tk, t5]; omega))]
    rw [hY]
    have hnx := oN_next hJ q0 q1 h4
    by_cases q : oN (mt X) (mp X) (k + 1) g = -1
    · have hOI := mdI_O hI h4
      obtain ⟨T', f', r1, -, r3⟩ := (gm_countsToO hN hl hw hOI).2 (hnx.trans q)
      have hb := (oN_at hJ q0 q1 h4).2.2.2.2
      rw [r1]
      simp only [Option.bind_some, if_true]
      have hB : sgB (sgK (mt X) (mp X) 6000002 (sgK (mt X) (mp X) (3 * oN (mt X) (mp X) k g + 2) g)) := mdI_sgB (mdI_sgK (K := 6000002) hOI (by decide)).1
      rw [gm_late hl rw_wr hB, sgK_K hJ q0 q1 (by omega) (by omega)]
      exact ⟨f', _, rfl, r3⟩
    · have bk1 := bc (k + 1) q
      have := (gm_countsToO hN hl hw (mdI_O hI h4)).1 _ _ q hnx hq (by unfold cO; omega)
      rw [this]
      have n1 : ¬ J 1 = J 0 := by decide
      simp only [Option.bind_some, n1, if_false]
      have jk : J (k : Int) + J 1 = J ((k + 1 : Nat) : Int) := by
        refine i_eq.mpr ?_
        rw [i_add, tk, tJ, J_toInt (by omega) (by omega)]
        · omega
        · rw [tk, tJ]; omega
        · rw [tk, tJ]; omega
      obtain ⟨e1, e2⟩ := O_next hI q
      have ec : cO (mt X) (mp X) k c g + (ckK (oN (mt X) (mp X) (k + 1) g) c 5 - ckK (oN (mt X) (mp X) k g) c 5) = cO (mt X) (mp X) (k + 1) c g := by unfold cO; omega
      rw [jk, e1, e2, ec]
      obtain ⟨f', R', r1, r2⟩ := gm_periodLoop0 hN hl hI hG hG2 he n (k + 1) (wr (wr v m (fdC (rw v m) (cO (mt X) (mp X) (k + 1) c g) (oN (mt X) (mp X) (k + 1) g) (sgK (mt X) (mp X) (3 * oN (mt X) (mp X) (k + 1) g + 2) g 2))) (m + 1) (iz (mk X (oN (mt X) (mp X) (k + 1) g) (ckK (oN (mt X) (mp X) (k + 1) g) c) (sgK (mt X) (mp X) (3 * oN (mt X) (mp X) (k + 1) g + 2) g)))) (by omega) (by omega) q rw_wr (by rw [rw_wr_ne ne1.symm, rw_wr, fdC_13])
      refine ⟨f', R', ?_, ?_⟩
      · rw [r1, wr_comm ne1, wr_wr, wr_wr]
      · rw [rw_wr_ne ne1.symm, rw_wr] at r2
        exact eqX_tr (eqX_fdC _ _ _ _) r2
theorem gm_measuresPeriod {S : shp} {v : vl} {m N : Nat} {X : Nat → Int} {T : Int} {c g : Nat → Int} {G : Nat} (hN : 7000000 ≤ N) (hl : mdL S m) (hw : rw v (m + 1) = iz (mk X T c g)) (hI : mdI X T c g) (hG : X 6 = G) (hG1 : 1 ≤ G ∧ G ≤ 999) :
    (oN (mt X) (mp X) G g ≠ -1 → F_gm_measuresPeriod N m S v = some (if cO (mt X) (mp X) G c g = 0 then J 3 else J 0, wr (wr v m (fdC (bgN (rw v m) (oN (mt X) (mp X) 0 g) (sgK (mt X) (mp X) (3 * oN (mt X) (mp X) 0 g + 2) g 2)) (cO (mt X) (mp X) G c g) (oN (mt X) (mp X) G g) (sgK (mt X) (mp X) (3 * oN (mt X) (mp X) G g + 2) g 2))) (m + 1) (iz (mk X (oN (mt X) (mp X) G g) (ckK (oN (mt X) (mp X) G g) c) (sgK (mt X) (mp X) (3 * oN (mt X) (mp X) G g + 2) g))))) ∧
    (oN (mt X) (mp X) G g = -1 → ∃ f' R', F_gm_measuresPeriod N m S v = some (if sgK (mt X) (mp X) 6000002 g 0 = 0 then J 2 else J 1, wr (wr v m f') (m + 1) R') ∧ eqX (rw v m) f') := by
  have ne1 : m + 1 ≠ m := by omega
  have n1 : ¬ J 1 = J 0 := by decide
  obtain ⟨⟨u, hJ, q0, q1⟩, hc, -⟩ := id hI
  unfold F_gm_measuresPeriod
  rw [grd_true _ hl.1]
  have start : ∀ R, R = iz (mk X (oN (mt X) (mp X) 0 g) (ckK (oN (mt X) (mp X) 0 g) c) (sgK (mt X) (mp X) (3 * oN (mt X) (mp X) 0 g + 2) g)) → F_gm_beginsNow m S (wr v (m + 1) R) = some (wr (wr v m (bgN (rw v m) (oN (mt X) (mp X) 0 g) (sgK (mt X) (mp X) (3 * oN (mt X) (mp X) 0 g + 2) g 2))) (m + 1) R) := by
    intro R hR
    subst hR
    rw [gm_beginsNow hl rw_wr, rw_wr_ne ne1.symm, wr_comm ne1]
  refine ⟨fun he => ?_, fun he => ?_⟩
  · have h0 := (oN_le hJ q0 q1 he (Nat.zero_le G)).1
    rw [(gm_waitsForO hN hl hw hI).1 _ h0 oN_0.symm]
    simp only [Option.bind_some, n1, if_false]
    rw [start _ rfl]
    simp only [Option.bind_some]
    have := gm_periodLoop hN hl hI hG hG1.2 he N 0 (wr (wr v m (bgN (rw v m) (oN (mt X) (mp X) 0 g) (sgK (mt X) (mp X) (3 * oN (mt X) (mp X) 0 g + 2) g 2))) (m + 1) (iz (mk X (oN (mt X) (mp X) 0 g) (ckK (oN (mt X) (mp X) 0 g) c) (sgK (mt X) (mp X) (3 * oN (mt X) (mp X) 0 g + 2) g)))) (by omega) (by omega) rw_wr (by unfold cO; rw [rw_wr_ne ne1.symm, rw_wr, Int.sub_self]; rfl)
    rw [show J 0 = J ((0 : Nat) : Int) from rfl, this, if_neg (show ¬ 0 = G by omega), rw_wr_ne ne1.symm, rw_wr, wr_comm ne1, wr_wr, wr_wr]
    rfl
  · by_cases h0 : oN (mt X) (mp X) 0 g = -1
    · obtain ⟨T', r1, -⟩ := (gm_waitsForO hN hl hw hI).2 (oN_0.symm.trans h0)
      rw [r1]
      simp only [Option.bind_some, if_true]
      rw [gm_late hl rw_wr (mdI_sgB (mdI_sgK (K := 6000002) hI (by decide)).1)]
      exact ⟨rw v m, iz (mk X T' (ckK 2000000 c) (sgK (mt X) (mp X) 6000002 g)), by rw [wr_self]; rfl, eqX_refl _⟩
    · rw [(gm_waitsForO hN hl hw hI).1 _ h0 oN_0.symm]
      simp only [Option.bind_some, n1, if_false]
      rw [start _ rfl]
      simp only [Option.bind_some]
      obtain ⟨f', R', r1, r2⟩ := gm_periodLoop0 hN hl hI hG hG1.2 he N 0 (wr (wr v m (bgN (rw v m) (oN (mt X) (mp X) 0 g) (sgK (mt X) (mp X) (3 * oN (mt X) (mp X) 0 g + 2) g 2))) (m + 1) (iz (mk X (oN (mt X) (mp X) 0 g) (ckK (oN (mt X) (mp X) 0 g) c) (sgK (mt X) (mp X) (3 * oN (mt X) (mp X) 0 g + 2) g)))) (by omega) (by omega) h0 rw_wr (by unfold cO; rw [rw_wr_ne ne1.symm, rw_wr, Int.sub_self]; rfl)
      refine ⟨f', R', ?_, ?_⟩
      · rw [show J 0 = J ((0 : Nat) : Int) from rfl, r1, wr_comm ne1, wr_wr, wr_wr]
      · rw [rw_wr_ne ne1.symm, rw_wr] at r2
        exact eqX_tr (eqX_bgN _ _ _) r2
end MEASURES
