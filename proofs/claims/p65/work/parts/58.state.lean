/-! The class's states in memory. -/
section STATE
/-- a signal's numbers are t, p, g as far as they matter -/
def sgW (S : shp) (v : vl) (a : Nat) (t p g : Nat → Int) : Prop := sgL S a ∧ ag 10 (rw v a) g ∧ (∀ i : Nat, (i : Int) < g 8 → rw v (a + 1) i = J (t i) ∧ rw v (a + 2) i = J (p i))
def sgV (t p g : Nat → Int) : Prop := (∃ u, sgJ u t p g ∧ 0 ≤ u ∧ u ≤ 2100000) ∧ (0 ≤ g 6 ∧ g 6 ≤ g 2) ∧ (0 ≤ g 7 ∧ g 7 ≤ g 3)
theorem sgV_rng {t p g : Nat → Int} (h : sgV t p g) : ∀ k, k < 10 → -2147483648 ≤ g k ∧ g k < 2147483648 := by
  obtain ⟨⟨u, hJ, q0, q1⟩, s6, s7⟩ := h
  obtain ⟨a0, a1, a2, a3, a4, a5⟩ := sgI_B hJ.1 ⟨q0, q1⟩
  have b := hJ.2.1
  intro k hk
  match k with
  | 0 => omega
  | 1 => omega
  | 2 => omega
  | 3 => omega
  | 4 => omega
  | 5 => omega
  | 6 => omega
  | 7 => omega
  | 8 => omega
  | 9 => omega
  | j + 10 => omega
theorem sgW_R {S : shp} {v : vl} {a : Nat} {t p g : Nat → Int} (h : sgW S v a t p g) (hV : sgV t p g) : ∃ t' p' w, sgR S v a t' p' (ov 10 g w) ∧ (∀ i : Nat, (i : Int) < g 8 → t i = t' i ∧ p i = p' i) := by
  obtain ⟨hl, hg, ht⟩ := h
  obtain ⟨e1, e2⟩ := ov_of hg (sgV_rng hV)
  obtain ⟨⟨u, hJ, q0, q1⟩, -⟩ := hV
  have hag : ∀ i : Nat, (i : Int) < g 8 → t i = zi (rw v (a + 1)) i ∧ p i = zi (rw v (a + 2)) i := by
    intro i hi
    obtain ⟨r1, r2⟩ := ht i hi
    obtain ⟨c1, c2, -⟩ := hJ.2.2.1 i hi
    constructor
    · show t i = (rw v (a + 1) i).toInt
      rw [r1, J_toInt (by omega) (by omega)]
    · show p i = (rw v (a + 2) i).toInt
      rw [r2, J_toInt (by omega) (by omega)]
  exact ⟨zi (rw v (a + 1)), zi (rw v (a + 2)), zi (rw v a), ⟨hl, e1, (iz_zi _).symm, (iz_zi _).symm, e2, rB_zi _, rB_zi _, u, sgJ_ov (sgJ_congr hJ hag), q0, q1⟩, hag⟩
theorem sgW_wr {S : shp} {v : vl} {a : Nat} {t p g g' : Nat → Int} {f : Nat → Int32} (h : sgW S v a t p g) (hf : ag 10 f g') (h8 : g' 8 = g 8) : sgW S (wr v a f) a t p g' := by
  obtain ⟨hl, hg, ht⟩ := h
  refine ⟨hl, by rw [rw_wr]; exact hf, fun i hi => ?_⟩
  rw [rw_wr_ne (by omega), rw_wr_ne (by omega)]
  exact ht i (by omega)
theorem sgV_K {t p g : Nat → Int} {K : Int} (h : sgV t p g) (hK : K ≤ 6300002) : sgV t p (sgK t p K g) ∧ sgK t p K g 8 = g 8 ∧ sgK t p K g 4 = g 4 := by
  obtain ⟨⟨u, hJ, q0, q1⟩, s6, s7⟩ := h
  obtain ⟨k1, u', k2, k3, k4, k5⟩ := sgK_J hJ q0 q1 hK
  have kk := sgK_keep hJ q0 q1 hK
  have hM := sgK_M hJ q0 q1 hK (fun h => g 2 ≤ h 2 ∧ g 3 ≤ h 3) ⟨Int.le_refl _, Int.le_refl _⟩ (fun u h _ _ _ hM _ => by
    obtain ⟨-, -, e2, e3, -⟩ := ev1_67 t p h
    exact ⟨by omega, by omega⟩)
  have e6 := kk 6 (by decide)
  have e7 := kk 7 (by decide)
  exact ⟨⟨⟨u', k2, by omega, k5⟩, by omega, by omega⟩, kk 8 (by decide), kk 4 (by decide)⟩
/-- what the class's signal does, in these words -/
theorem sgW_passTo {S : shp} {v : vl} {a N : Nat} {t p g : Nat → Int} {T : Int} (hN : 100 ≤ N) (h : sgW S v a t p g) (hV : sgV t p g) (hT : 0 ≤ T ∧ T ≤ 2100000) :
    ∃ f, F_sg_passTo N a (J T) S v = some (wr v a f) ∧ ag 10 f (sgK t p (3 * T + 2) g) ∧ sgW S (wr v a f) a t p (sgK t p (3 * T + 2) g) := by
  obtain ⟨t', p', w, hR, hag⟩ := sgW_R h hV
  have b := hV.1.choose_spec.1.2.1
  have e : iz (sgK t' p' (3 * T + 2) (ov 10 g w)) = iz (ov 10 (sgK t p (3 * T + 2) g) w) := by rw [sgK_ov, sgK_congr b.1 hag]
  have ha : ag 10 (iz (ov 10 (sgK t p (3 * T + 2) g) w)) (sgK t p (3 * T + 2) g) := ag_ov
  exact ⟨_, by rw [sg_passTo' hN hR hT, e], ha, sgW_wr h ha (sgV_K hV (by omega)).2.1⟩
theorem sgW_passAhead {S : shp} {v : vl} {a N : Nat} {t p g : Nat → Int} {T : Int} (hN : 100 ≤ N) (h : sgW S v a t p g) (hV : sgV t p g) (hT : 0 ≤ T ∧ T ≤ 2100000) :
    ∃ f, F_sg_passAheadOfClock N a (J T) S v = some (wr v a f) ∧ ag 10 f (sgK t p (3 * T) g) ∧ sgW S (wr v a f) a t p (sgK t p (3 * T) g) := by
  obtain ⟨t', p', w, hR, hag⟩ := sgW_R h hV
  have b := hV.1.choose_spec.1.2.1
  have e : iz (sgK t' p' (3 * T) (ov 10 g w)) = iz (ov 10 (sgK t p (3 * T) g) w) := by rw [sgK_ov, sgK_congr b.1 hag]
  have ha : ag 10 (iz (ov 10 (sgK t p (3 * T) g) w)) (sgK t p (3 * T) g) := ag_ov
  exact ⟨_, by rw [sg_passAhead hN hR hT, e], ha, sgW_wr h ha (sgV_K hV (by omega)).2.1⟩
theorem sgW_timeOfOutput {S : shp} {v : vl} {a N : Nat} {t p g : Nat → Int} {n : Nat} (hN : 100 ≤ N) (h : sgW S v a t p g) (hV : sgV t p g) (hn : n < 5000) : F_sg_timeOfOutput N a (J ((n : Int) + 1)) S v = some (J (oN t p n g)) := by
  obtain ⟨t', p', w, hR, hag⟩ := sgW_R h hV
  have b := hV.1.choose_spec.1.2.1
  rw [sg_timeOfOutput hN hR (by omega), show ov 10 g w 4 = g 4 from rfl, show ov 10 g w 5 = g 5 from rfl, eT_ov, ← eT_congr b.1 hag]
  rfl
theorem sgW_reason {S : shp} {v : vl} {a : Nat} {t p g : Nat → Int} (h : sgW S v a t p g) (hV : sgV t p g) : F_sg_reasonForNoEnd a S v = some (if sgK t p 6000002 g 0 = 0 then J 2 else J 1) := by
  obtain ⟨t', p', w, hR, hag⟩ := sgW_R h hV
  have b := hV.1.choose_spec.1.2.1
  rw [sg_reason hR, sgK_ov, ← sgK_congr b.1 hag]
  rfl
-- clocks
def ckV (c : Nat → Int) : Prop := ckI c ∧ (c 4 ≤ 2101000 ∧ 9 * c 5 ≤ c 4) ∧ (0 ≤ c 6 ∧ c 6 ≤ 2100000)
theorem ckV_rng {c : Nat → Int} (h : ckV c) : ∀ k, k < 7 → -2147483648 ≤ c k ∧ c k < 2147483648 := by
  obtain ⟨⟨b0, b1, b2, b3, b4, b5⟩, h2, h3⟩ := h
  intro k hk
  match k with
  | 0 => omega
  | 1 => omega
  | 2 => omega
  | 3 => omega
  | 4 => omega
  | 5 => omega
  | 6 => omega
  | j + 7 => omega
theorem ckI_ov {c w : Nat → Int} (h : ckI c) : ckI (ov 7 c w) := h
theorem ckV_tick {c : Nat → Int} (h : ckV c) (h4 : c 4 ≤ 2100000) : ckV (tkZ c) := by
  obtain ⟨h1, h2, h3⟩ := h
  have k := tkZ_inv h1
  have k0 := h1.2.2.2.2.1
  refine ⟨k.1, ⟨by omega, ?_⟩, ⟨k0, h4⟩⟩
  show 9 * (c 5 + 1) ≤ _
  omega
theorem ckV_tkN {c : Nat → Int} (h : ckV c) : ∀ k : Nat, (tkN k c) 4 ≤ 2000000 → ckV (tkN (k + 1) c)
  | 0, h4 => ckV_tick h (Int.le_trans h4 (by decide))
  | k + 1, h4 => by
    have := tkN_mono h.1 (show k ≤ k + 1 by omega)
    exact ckV_tick (ckV_tkN h k (by omega)) (Int.le_trans h4 (by decide))
theorem ckV_K {c : Nat → Int} {T : Int} (h : ckV c) (hT : T ≤ 2100000) : ckV (ckK T c) ∧ T < ckK T c 4 ∧ c 5 ≤ ckK T c 5 ∧ ckK T c 0 = c 0 := by
  obtain ⟨h1, h2, h3⟩ := h
  obtain ⟨⟨m1, m2, m3⟩, k1, k2⟩ := ckK_M (T := T) h1 (fun d => ckV d ∧ c 5 ≤ d 5 ∧ d 0 = c 0) ⟨⟨h1, h2, h3⟩, Int.le_refl _, rfl⟩ (fun d hd hM hd4 => ⟨ckV_tick hM.1 (by omega), by show c 5 ≤ d 5 + 1; have := hM.2.1; omega, hM.2.2⟩)
  exact ⟨m1, k2, m2, m3⟩
theorem ckW_passTo {S : shp} {v : vl} {a N : Nat} {c : Nat → Int} {T : Int} (hN : 7000000 ≤ N) (hk : kin S a = some (0, 0)) (hc : ag 7 (rw v a) c) (hV : ckV c) (hT : 0 ≤ T ∧ T ≤ 2100000) :
    ∃ f, F_ck_passTo N a (J T) S v = some (wr v a f) ∧ ag 7 f (ckK T c) := by
  obtain ⟨e1, e2⟩ := ov_of hc (ckV_rng hV)
  obtain ⟨w, hw⟩ : ∃ w, w = zi (rw v a) := ⟨_, rfl⟩
  rw [← hw] at e1 e2
  have hI : ckI (ov 7 c w) := ckI_ov hV.1
  obtain ⟨n, hn⟩ := isTo_ex (T := T) hI
  have h4 : ov 7 c w 4 = c 4 := rfl
  have h5 : ov 7 c w 5 = c 5 := rfl
  have hb : (n : Int) ≤ 300000 := by
    by_cases q : n = 0
    · omega
    · have h1 := hn.2 (n - 1) (by omega)
      have h2 := (tkN_inv hI (n - 1)).2.2.1
      have := hV.1.2.2.2.2.1
      omega
  have hv := hV.2.1
  refine ⟨iz (tkN n (ov 7 c w)), ?_, ?_⟩
  · unfold F_ck_passTo
    exact ck_passTo (N := N) hk (T := T) (by omega) N n 0 v (ov 7 c w) e1 e2 hI hn (by omega) (by omega) (by omega) (by omega)
  · rw [← ckK_to n _ hI hn, ckK_ov]
    exact ag_ov
theorem ckW_passEdges {S : shp} {v : vl} {a N : Nat} {c : Nat → Int} {n : Nat} (hN : 7000000 ≤ N) (hk : kin S a = some (0, 0)) (hc : ag 7 (rw v a) c) (hr : ∀ k, k < 7 → -2147483648 ≤ c k ∧ c k < 2147483648) (hI : ckI c) (h4 : c 4 ≤ 3000000) (h5 : c 5 ≤ 3000000) (hn : n ≤ 20000) :
    ∃ f, F_ck_passEdges N a (J n) S v = some (wr v a f) ∧ ag 7 f (tkN n c) := by
  obtain ⟨e1, e2⟩ := ov_of hc hr
  obtain ⟨w, hw⟩ : ∃ w, w = zi (rw v a) := ⟨_, rfl⟩
  rw [← hw] at e1 e2
  have g4 : ov 7 c w 4 = c 4 := rfl
  have g5 : ov 7 c w 5 = c 5 := rfl
  refine ⟨iz (tkN n (ov 7 c w)), ?_, ?_⟩
  · unfold F_ck_passEdges
    exact ck_passEdges (N := N) hk N n v (ov 7 c w) e1 e2 (ckI_ov hI) (by omega) (by omega) (by omega)
  · rw [tkN_ov]
    exact ag_ov
theorem ckW_tick {S : shp} {v : vl} {a : Nat} {c : Nat → Int} (hk : kin S a = some (0, 0)) (hc : ag 7 (rw v a) c) (hr : ∀ k, k < 7 → -2147483648 ≤ c k ∧ c k < 2147483648) (hI : ckI c) (h4 : c 4 ≤ 500000000) (h5 : c 5 ≤ 500000000) :
    ∃ f, F_ck_tick a S v = some (wr v a f) ∧ ag 7 f (tkZ c) := by
  obtain ⟨e1, e2⟩ := ov_of hc hr
  obtain ⟨w, hw⟩ : ∃ w, w = zi (rw v a) := ⟨_, rfl⟩
  rw [← hw] at e1 e2
  have g4 : ov 7 c w 4 = c 4 := rfl
  have g5 : ov 7 c w 5 = c 5 := rfl
  refine ⟨_, ck_tick hk e1 e2 (ckI_B (ckI_ov hI) (by omega) (by omega)), ?_⟩
  rw [tkZ_ov]
  exact ag_ov
-- states
/-- where a state at b lies -/
def stL (S : shp) (b : Nat) : Prop := kin S b = some (0, 4) ∧ gr S b 6 = some (b + 1) ∧ kin S (b + 1) = some (0, 0) ∧ gr S b 7 = some (b + 2) ∧ sgL S (b + 2) ∧ gr S b 8 = some (b + 5) ∧ kin S (b + 5) = some (5, 20)
/-- measurements -/
def msR (S : shp) (v : vl) (b : Nat) (n : Int) (M : Nat → Nat → Int) : Prop := ∀ i : Nat, (i : Int) < n → ∃ r, gr S b i = some r ∧ kin S r = some (0, 1) ∧ ag 7 (rw v r) (M i)
/-- h: 0 time, 1 GATE, 2 PERIODS, 3 CORRECTION, 4 made, 5 kept -/
def stM (S : shp) (v : vl) (b : Nat) (h c g t p : Nat → Int) : Prop := stL S b ∧ ag 6 (rw v b) h ∧ ag 7 (rw v (b + 1)) c ∧ sgW S v (b + 2) t p g
def hV (h : Nat → Int) : Prop := (0 ≤ h 0 ∧ h 0 ≤ 2000000) ∧ (1 ≤ h 1 ∧ h 1 ≤ 9999) ∧ (1 ≤ h 2 ∧ h 2 ≤ 999) ∧ (-99 ≤ h 3 ∧ h 3 ≤ 99) ∧ (0 ≤ h 5 ∧ h 5 ≤ 20)
/-- rows b to b + n alone have changed -/
def fri (b n : Nat) (v v' : vl) : Prop := v'.2 = v.2 ∧ ∀ a, (a < b ∨ b + n ≤ a) → rw v' a = rw v a
theorem fri_refl (b n : Nat) (v : vl) : fri b n v v := ⟨rfl, fun _ _ => rfl⟩
theorem fri_tr {b n : Nat} {v w x : vl} (h1 : fri b n v w) (h2 : fri b n w x) : fri b n v x := ⟨h2.1.trans h1.1, fun a ha => (h2.2 a ha).trans (h1.2 a ha)⟩
theorem fri_wr {b n a : Nat} {v : vl} {f : Nat → Int32} (h : b ≤ a ∧ a < b + n) : fri b n v (wr v a f) := ⟨rfl, fun x hx => rw_wr_ne (by omega)⟩
theorem fri_mono {b n b' n' : Nat} {v w : vl} (h : fri b n v w) (h1 : b' ≤ b) (h2 : b + n ≤ b' + n') : fri b' n' v w := ⟨h.1, fun a ha => h.2 a (by omega)⟩
theorem stM_ne {S : shp} {b r : Nat} (hl : stL S b) (hr : kin S r = some (0, 1)) : r < b ∨ b + 6 ≤ r := by
  obtain ⟨k0, -, k1, -, ⟨k2, k3, k4, -⟩, -, k5⟩ := hl
  have e0 : r ≠ b := fun q => by rw [q, k0] at hr; cases hr
  have e1 : r ≠ b + 1 := fun q => by rw [q, k1] at hr; cases hr
  have e2 : r ≠ b + 2 := fun q => by rw [q, k2] at hr; cases hr
  have e3 : r ≠ b + 2 + 1 := fun q => by rw [q, k3] at hr; cases hr
  have e4 : r ≠ b + 2 + 2 := fun q => by rw [q, k4] at hr; cases hr
  have e5 : r ≠ b + 5 := fun q => by rw [q, k5] at hr; cases hr
  omega
theorem msR_fri {S : shp} {v v' : vl} {b x : Nat} {n : Int} {M : Nat → Nat → Int} (h : msR S v x n M) (hl : stL S b) (hf : fri b 6 v v') : msR S v' x n M := by
  intro i hi
  obtain ⟨r, r1, r2, r3⟩ := h i hi
  refine ⟨r, r1, r2, ?_⟩
  rw [hf.2 r (stM_ne hl r2)]
  exact r3
theorem stM_toClock {S : shp} {v : vl} {b N : Nat} {h c g t p : Nat → Int} (hN : 7000000 ≤ N) (hM : stM S v b h c g t p) (hc : ckV c) (hg : sgV t p g) :
    (c 4 ≤ 2000000 → ∃ v', F_st_toClockEdge N b S v = some (J 1, v') ∧ stM S v' b (fun k => if k = 0 then c 4 else h k) (tkZ c) (sgK t p (3 * c 4) g) t p ∧ fri b 6 v v') ∧
    (2000000 < c 4 → F_st_toClockEdge N b S v = some (J 0, v)) := by
  obtain ⟨hl, hh, hcc, hgg⟩ := hM
  obtain ⟨k0, r6, k1, r7, l2, r8, k5⟩ := id hl
  have e4 : rw v (b + 1) 4 = J (c 4) := hcc 4 (by decide)
  have h40 := hc.1.2.2.2.2
  have t4 : (J (c 4)).toInt = c 4 := J_toInt (by omega) (by have := hc.2.1; omega)
  have t2 : (J 2000000).toInt = 2000000 := tJ
  unfold F_st_toClockEdge
  rw [grd_true _ k0, r6]
  simp only [Option.bind_some]
  rw [grd_true _ k1, gi_rw, e4]
  refine ⟨fun q => ?_, fun q => ?_⟩
  · rw [if_neg (fun z => by have := i_lt.mp z; rw [t2, t4] at this; omega)]
    obtain ⟨f1, s1, a1⟩ := ckW_tick k1 hcc (ckV_rng hc) hc.1 (by omega) (by have := hc.2.1; omega)
    rw [s1]
    simp only [Option.bind_some]
    rw [r7]
    simp only [Option.bind_some]
    have W1 : sgW S (wr v (b + 1) f1) (b + 2) t p g := ⟨l2, by rw [rw_wr_ne (by omega)]; exact hgg.2.1, fun i hi => by rw [rw_wr_ne (by omega), rw_wr_ne (by omega)]; exact hgg.2.2 i hi⟩
    have e6 : gi (wr v (b + 1) f1) (b + 1) 6 = J (c 4) := by rw [gi_rw, rw_wr]; exact a1 6 (by decide)
    obtain ⟨f2, s2, a2, W2⟩ := sgW_passAhead (T := c 4) (show 100 ≤ N by omega) W1 hg (by omega)
    rw [grd_true _ l2.1, e6, s2]
    simp only [Option.bind_some, lt_def, si_wr, gi_x]
    refine ⟨_, rfl, ⟨hl, ?_, ?_, ?_⟩, ?_⟩
    · rw [rw_wr, rw_wr_ne (show b + 1 ≠ b + 2 by omega), rw_wr, rw_wr_ne (show b ≠ b + 2 by omega), rw_wr_ne (show b ≠ b + 1 by omega), a1 6 (by decide)]
      exact ag_up hh
    · rw [rw_wr_ne (show b + 1 ≠ b by omega), rw_wr_ne (show b + 1 ≠ b + 2 by omega), rw_wr]
      exact a1
    · refine ⟨l2, ?_, fun i hi => ?_⟩
      · rw [rw_wr_ne (show b + 2 ≠ b by omega), rw_wr]
        exact a2
      · rw [rw_wr_ne (by omega), rw_wr_ne (show b + 2 + 2 ≠ b by omega)]
        exact W2.2.2 i hi
    · exact fri_tr (fri_tr (fri_wr (by omega)) (fri_wr (by omega))) (fri_wr (by omega))
  · rw [if_pos (i_lt.mpr (by rw [t2, t4]; exact q))]
theorem stM_passTo {S : shp} {v : vl} {b N : Nat} {h c g t p : Nat → Int} {T : Int} (hN : 7000000 ≤ N) (hM : stM S v b h c g t p) (hc : ckV c) (hg : sgV t p g) (hT : 0 ≤ T ∧ T ≤ 2000000) :
    ∃ v', F_st_passTo N b (J T) S v = some v' ∧ stM S v' b (fun k => if k = 0 then T else h k) (ckK T c) (sgK t p (3 * T + 2) g) t p ∧ fri b 6 v v' := by
  obtain ⟨hl, hh, hcc, hgg⟩ := hM
  obtain ⟨k0, r6, k1, r7, l2, r8, k5⟩ := id hl
  obtain ⟨f1, s1, a1⟩ := ckW_passTo hN k1 hcc hc (show 0 ≤ T ∧ T ≤ 2100000 by omega)
  have W1 : sgW S (wr v (b + 1) f1) (b + 2) t p g := ⟨l2, by rw [rw_wr_ne (by omega)]; exact hgg.2.1, fun i hi => by rw [rw_wr_ne (by omega), rw_wr_ne (by omega)]; exact hgg.2.2 i hi⟩
  obtain ⟨f2, s2, a2, W2⟩ := sgW_passTo (T := T) (show 100 ≤ N by omega) W1 hg (by omega)
  unfold F_st_passTo
  rw [grd_true _ k0, r6]
  simp only [Option.bind_some]
  rw [grd_true _ k1, s1]
  simp only [Option.bind_some]
  rw [r7]
  simp only [Option.bind_some]
  rw [grd_true _ l2.1, s2]
  simp only [Option.bind_some, lt_def, si_wr]
  refine ⟨_, rfl, ⟨hl, ?_, ?_, ?_⟩, ?_⟩
  · rw [rw_wr, rw_wr_ne (show b ≠ b + 2 by omega), rw_wr_ne (show b ≠ b + 1 by omega)]
    exact ag_up hh
  · rw [rw_wr_ne (show b + 1 ≠ b by omega), rw_wr_ne (show b + 1 ≠ b + 2 by omega), rw_wr]
    exact a1
  · refine ⟨l2, ?_, fun i hi => ?_⟩
    · rw [rw_wr_ne (show b + 2 ≠ b by omega), rw_wr]
      exact a2
    · rw [rw_wr_ne (by omega), rw_wr_ne (show b + 2 + 2 ≠ b by omega)]
      exact W2.2.2 i hi
  · exact fri_tr (fri_tr (fri_wr (by omega)) (fri_wr (by omega))) (fri_wr (by omega))
end STATE
