/-! Walks over the clock's edges. -/
section WALK
/-- first index that is there and is enough -/
def wkZ (e d : Nat → Bool) : Nat → Nat → Int
  | 0, _ => -1
  | f + 1, i => if e i = true then (if d i = true then (i : Int) else wkZ e d f (i + 1)) else -1
/-- last index that is there -/
def lgZ (e : Nat → Bool) : Nat → Nat → Int → Int
  | 0, _, l => l
  | f + 1, i, l => if e i = true then lgZ e f (i + 1) i else l
def eB (c : Nat → Int) (i : Nat) : Bool := decide ((tkN i c) 4 ≤ 2000000)
theorem wkZ_s {e d : Nat → Bool} {f i : Nat} : wkZ e d (f + 1) i = if e i = true then (if d i = true then (i : Int) else wkZ e d f (i + 1)) else -1 := rfl
theorem lgZ_s {e : Nat → Bool} {f i : Nat} {l : Int} : lgZ e (f + 1) i l = if e i = true then lgZ e f (i + 1) i else l := rfl
theorem eB_1 {c : Nat → Int} {i : Nat} (h : (tkN i c) 4 ≤ 2000000) : eB c i = true := decide_eq_true h
theorem eB_0 {c : Nat → Int} {i : Nat} (h : ¬ (tkN i c) 4 ≤ 2000000) : ¬ eB c i = true := fun z => h (of_decide_eq_true z)
variable {S : shp} {v : vl} {a b m N q : Nat} {h c g t p X : Nat → Int} {M : Nat → Nat → Int} {sv : Option sta} {ps : List sta} {re ca ch : Int}
def wkS (S : shp) (v : vl) (b : Nat) (h c g t p : Nat → Int) (i : Nat) : Prop := ∃ h', stM S v b h' (tkN (i + 1) c) (gG t p i c g) t p ∧ h' 3 = h 3
theorem wk_0 (hN : 7000000 ≤ N) (hM : stM S v b h c g t p) (hc : ckV c) (hg : sgV t p g) :
    (c 4 ≤ 2000000 → ∃ v', F_st_toClockEdge N b S v = some (J 1, v') ∧ wkS S v' b h c g t p 0 ∧ fri b 6 v v') ∧
    (2000000 < c 4 → F_st_toClockEdge N b S v = some (J 0, v)) := by
  obtain ⟨s1, s2⟩ := stM_toClock hN hM hc hg
  refine ⟨fun z => ?_, s2⟩
  obtain ⟨v', e1, e2, e3⟩ := s1 z
  exact ⟨v', e1, ⟨_, e2, rfl⟩, e3⟩
theorem wk_s {j : Nat} (hN : 7000000 ≤ N) (hc : ckV c) (hg : sgV t p g) (h4 : (tkN j c) 4 ≤ 2000000) (hW : wkS S v b h c g t p j) :
    ((tkN (j + 1) c) 4 ≤ 2000000 → ∃ v', F_st_toClockEdge N b S v = some (J 1, v') ∧ wkS S v' b h c g t p (j + 1) ∧ fri b 6 v v') ∧
    (2000000 < (tkN (j + 1) c) 4 → F_st_toClockEdge N b S v = some (J 0, v)) := by
  obtain ⟨h', hM, h3⟩ := hW
  obtain ⟨s1, s2⟩ := stM_toClock hN hM (ckV_tkN hc j h4) (gG_V hc.1 hg h4).1
  refine ⟨fun z => ?_, s2⟩
  obtain ⟨v', e1, e2, e3⟩ := s1 z
  have hm := tkN_mono hc.1 (show j ≤ j + 1 by omega)
  obtain ⟨u, hJ, q0, q1⟩ := hg.1
  have ek : sgK t p (3 * (tkN (j + 1) c) 4) (gG t p j c g) = gG t p (j + 1) c g := sgK_K hJ q0 q1 (by omega) (by omega)
  rw [ek] at e2
  exact ⟨v', e1, ⟨_, e2, h3⟩, e3⟩
theorem wk_3 {j : Nat} (hW : wkS S v b h c g t p j) : kin S b = some (0, 4) ∧ gr S b 7 = some (b + 2) ∧ kin S (b + 2) = some (0, 3) ∧ rw v (b + 2) 3 = J (gG t p j c g 3) ∧ rw v b 3 = J (h 3) := by
  obtain ⟨h', hM, h3⟩ := hW
  obtain ⟨hl, hh, hcc, hgg⟩ := hM
  obtain ⟨k0, r6, k1, r7, l2, r8, k5⟩ := id hl
  exact ⟨k0, r7, l2.1, hgg.2.1 3 (by decide), by rw [hh 3 (by decide), h3]⟩
/-- enough digits -/
def dF (t p c g : Nat → Int) (n : Int) (i : Nat) : Bool := decide (n ≤ dgZ (gO t p i c g))
def gfZ (t p c g : Nat → Int) (n : Int) : Int := if c 4 ≤ 2000000 then wkZ (eB c) (dF t p c g n) 9999 1 else -1
theorem J_s {j : Nat} : J (j : Int) + J 1 = J ((j + 1 : Nat) : Int) := (J_add _ _).symm
theorem dgZ_B (z : Int) : 0 ≤ dgZ z ∧ dgZ z ≤ 10 := dgF_nn 10 z
theorem gc_gateForLoop {n : Int} (hN : 7000000 ≤ N) (ka : kin S a = some (0, 5)) (ga : gr S a 6 = some b) (hc : ckV c) (hg : sgV t p g) (hn : 1 ≤ n ∧ n ≤ 6) : ∀ (f j : Nat) (v : vl), j ≤ 9999 → 9999 - j < f → (tkN j c) 4 ≤ 2000000 → wkS S v b h c g t p j →
    ∃ v', K_gc_gateFor_36 N f S v a (J n) (J (gG t p 0 c g 3)) (J ((j + 1 : Nat) : Int)) = some (.inr (J (wkZ (eB c) (dF t p c g n) (9999 - j) (j + 1)), S, v')) ∧ fri b 6 v v'
  | 0, j, v, _, h, _, _ => absurd h (Nat.not_lt_zero _)
  | f + 1, j, v, hj, hf, h4, hW => by
    have n1 : ¬ J 1 = J 0 := by decide
    show ∃ v', Y_gc_gateFor_36 N (K_gc_gateFor_36 N f) S v a (J n) (J (gG t p 0 c g 3)) (J ((j + 1 : Nat) : Int)) = _ ∧ _
    unfold Y_gc_gateFor_36
    by_cases q : j = 9999
    · subst q
      rw [if_pos (by decide)]
      exact ⟨v, rfl, fri_refl _ _ _⟩
    · obtain ⟨k0, -⟩ := wk_3 hW
      obtain ⟨s1, s2⟩ := wk_s hN hc hg h4 hW
      rw [if_neg (fun z => by have := (J_lt (by decide) (by omega)).mp z; omega), grd_true _ ka, ga]
      simp only [Option.bind_some]
      rw [grd_true _ k0, show 9999 - j = (9999 - (j + 1)) + 1 by omega, wkZ_s]
      by_cases y : (tkN (j + 1) c) 4 ≤ 2000000
      · obtain ⟨v1, t1, t2, t3⟩ := s1 y
        obtain ⟨-, r7, k2, r3, -⟩ := wk_3 t2
        have gV := gG_V hc.1 hg y
        have hB := dgZ_B (gO t p (j + 1) c g)
        have eg : gG t p (j + 1) c g 3 - gG t p 0 c g 3 = gO t p (j + 1) c g := rfl
        rw [t1, if_pos (eB_1 y)]
        simp only [Option.bind_some, n1, if_false, r7, k2, grd_pos, gi_x, r3]
        rw [← J_sub, eg, gc_digitsOf (by omega) (by omega)]
        simp only [Option.bind_some]
        by_cases w : n ≤ dgZ (gO t p (j + 1) c g)
        · rw [if_neg (fun z => by have := (J_lt (by omega) (by omega)).mp z; omega), if_pos (show dF t p c g n (j + 1) = true from decide_eq_true w)]
          exact ⟨v1, rfl, t3⟩
        · rw [if_pos ((J_lt (by omega) (by omega)).mpr (by omega)), if_neg (show ¬ dF t p c g n (j + 1) = true from fun z => w (of_decide_eq_true z)), J_s]
          obtain ⟨v2, p1, p2⟩ := gc_gateForLoop hN ka ga hc hg hn f (j + 1) v1 (by omega) (by omega) y t2
          exact ⟨v2, p1, fri_tr t3 p2⟩
      · rw [s2 (by omega), if_neg (eB_0 y)]
        simp only [Option.bind_some, if_true]
        exact ⟨v, rfl, fri_refl _ _ _⟩
def rgO (lo hi n x : Int) : Nat ⊕ Int := if lo ≤ n ∧ n ≤ hi then .inr x else .inl 1
theorem gc_gateFor {n : Int} (hN : 7000000 ≤ N) (hw : wfS S) (hR : cR S v a (h, c, g, t, p, M) sv ps re ca ch q) (hn : -2147483648 ≤ n ∧ n < 2147483648) :
    QC (F_gc_gateFor N a (J n) S v) (fun _ => 0) (rgO 1 6 n (gfZ t p c g n)) (PC a (h, c, g, t, p, M) sv ps re ca ch q S v) := by
  have n1 : ¬ J 1 = J 0 := by decide
  obtain ⟨k0, g5, n0, -⟩ := cR_now hR
  unfold F_gc_gateFor rgO
  rw [gc_within hn (by decide) (by decide)]
  by_cases z : 1 ≤ n ∧ n ≤ 6
  · obtain ⟨S1, v1, s1, s2, R1, w1, x1⟩ := fresh_R (N := N) (by omega) hw hR (Or.inl rfl)
    have hV := cR_V hR
    obtain ⟨y1, y2⟩ := wk_0 hN s2.1 hV.2.1 hV.2.2.1
    have b0 := s2.1.1.1
    have ka := R1.1.1.1
    rw [if_pos z, if_pos z, bx_r]
    simp only [k0, grd_pos, (gr67 hR.1).1, Option.bind_some, s1, oc2, b0]
    unfold gfZ
    by_cases y : c 4 ≤ 2000000
    · obtain ⟨v2, t1, t2, t3⟩ := y1 y
      obtain ⟨-, r7, k2, r3, -⟩ := wk_3 t2
      obtain ⟨v3, p1, p2⟩ := gc_gateForLoop hN ka (gr67 R1.1).1 hV.2.1 hV.2.2.1 z N 0 v2 (by decide) (by omega) y t2
      rw [t1, if_pos y]
      simp only [Option.bind_some, n1, if_false, (gr67 R1.1).1, b0, r7, k2, grd_pos, gi_x, r3]
      exact ⟨S1, v3, p1, scr_P hR hw (Or.inl rfl) s2.1.1 (exi_tr x1 (exi_fri (fri_tr t3 p2))) (by decide) (by decide)⟩
    · have t1 := y2 (show 2000000 < c 4 by omega)
      rw [t1, if_neg y]
      simp only [Option.bind_some, if_true]
      exact ⟨S1, v1, rfl, scr_P hR hw (Or.inl rfl) s2.1.1 x1 (by decide) (by decide)⟩
  · rw [if_neg z, if_neg z, bx_l]
    rfl
def lnZ (c : Nat → Int) : Int := if c 4 ≤ 2000000 then lgZ (eB c) 9999 1 (-1) else -1
theorem gc_longestGateLoop (hN : 7000000 ≤ N) (ka : kin S a = some (0, 5)) (ga : gr S a 6 = some b) (hc : ckV c) (hg : sgV t p g) : ∀ (f j : Nat) (v : vl) (l : Int), j ≤ 9999 → 9999 - j < f → (tkN j c) 4 ≤ 2000000 → wkS S v b h c g t p j →
    ∃ v', K_gc_longestGate_20 N f S v a (J l) (J ((j + 1 : Nat) : Int)) = some (J (lgZ (eB c) (9999 - j) (j + 1) l), S, v') ∧ fri b 6 v v'
  | 0, j, v, l, _, h, _, _ => absurd h (Nat.not_lt_zero _)
  | f + 1, j, v, l, hj, hf, h4, hW => by
    have n1 : ¬ J 1 = J 0 := by decide
    show ∃ v', Y_gc_longestGate_20 N (K_gc_longestGate_20 N f) S v a (J l) (J ((j + 1 : Nat) : Int)) = _ ∧ _
    unfold Y_gc_longestGate_20
    by_cases q : j = 9999
    · subst q
      rw [if_pos (by decide)]
      exact ⟨v, rfl, fri_refl _ _ _⟩
    · obtain ⟨k0, -⟩ := wk_3 hW
      obtain ⟨s1, s2⟩ := wk_s hN hc hg h4 hW
      rw [if_neg (fun z => by have := (J_lt (by decide) (by omega)).mp z; omega), grd_true _ ka, ga]
      simp only [Option.bind_some]
      rw [grd_true _ k0, show 9999 - j = (9999 - (j + 1)) + 1 by omega, lgZ_s]
      by_cases y : (tkN (j + 1) c) 4 ≤ 2000000
      · obtain ⟨v1, t1, t2, t3⟩ := s1 y
        rw [t1, if_pos (eB_1 y)]
        simp only [Option.bind_some, n1, if_false]
        rw [J_s]
        obtain ⟨v2, p1, p2⟩ := gc_longestGateLoop hN ka ga hc hg f (j + 1) v1 ((j + 1 : Nat) : Int) (by omega) (by omega) y t2
        exact ⟨v2, p1, fri_tr t3 p2⟩
      · rw [s2 (by omega), if_neg (eB_0 y)]
        simp only [Option.bind_some, if_true]
        exact ⟨v, rfl, fri_refl _ _ _⟩
theorem gc_longestGate (hN : 7000000 ≤ N) (hw : wfS S) (hR : cR S v a (h, c, g, t, p, M) sv ps re ca ch q) :
    QD (F_gc_longestGate N a S v) (lnZ c) (PC a (h, c, g, t, p, M) sv ps re ca ch q S v) := by
  have n1 : ¬ J 1 = J 0 := by decide
  obtain ⟨k0, g5, n0, -⟩ := cR_now hR
  unfold F_gc_longestGate
  obtain ⟨S1, v1, s1, s2, R1, w1, x1⟩ := fresh_R (N := N) (by omega) hw hR (Or.inl rfl)
  have hV := cR_V hR
  obtain ⟨y1, y2⟩ := wk_0 hN s2.1 hV.2.1 hV.2.2.1
  have b0 := s2.1.1.1
  have ka := R1.1.1.1
  simp only [k0, grd_pos, (gr67 hR.1).1, Option.bind_some, s1, oc2, b0]
  unfold lnZ
  by_cases y : c 4 ≤ 2000000
  · obtain ⟨v2, t1, t2, t3⟩ := y1 y
    obtain ⟨v3, p1, p2⟩ := gc_longestGateLoop hN ka (gr67 R1.1).1 hV.2.1 hV.2.2.1 N 0 v2 (-1) (by decide) (by omega) y t2
    rw [t1, if_pos y]
    simp only [Option.bind_some, n1, if_false]
    exact ⟨S1, v3, p1, scr_P hR hw (Or.inl rfl) s2.1.1 (exi_tr x1 (exi_fri (fri_tr t3 p2))) (by decide) (by decide)⟩
  · have t1 := y2 (show 2000000 < c 4 by omega)
    rw [t1, if_neg y]
    simp only [Option.bind_some, if_true]
    exact ⟨S1, v1, rfl, scr_P hR hw (Or.inl rfl) s2.1.1 x1 (by decide) (by decide)⟩
-- the model's walk
def mwS (v : vl) (m : Nat) (X c g : Nat → Int) (j : Nat) : Prop := rw v (m + 1) = iz (mk X ((tkN j c) 4) (tkN (j + 1) c) (gG (mt X) (mp X) j c g)) ∧ rw v m 13 = J (gG (mt X) (mp X) j c g 3 - gG (mt X) (mp X) 0 c g 3)
theorem mw_0 {T : Int} (hN : 7000000 ≤ N) (hl : mdL S m) (hw : rw v (m + 1) = iz (mk X T c g)) (hI : mdI X T c g) :
    (c 4 ≤ 2000000 → ∃ R f, F_gm_waitsFor N m (J 2) S v = some (J 1, wr v (m + 1) R) ∧ F_gm_beginsNow m S (wr v (m + 1) R) = some (wr (wr v m f) (m + 1) R) ∧ eqX (rw v m) f ∧ mwS (wr (wr v m f) (m + 1) R) m X c g 0) ∧
    (2000000 < c 4 → ∃ R f, F_gm_waitsFor N m (J 2) S v = some (J 0, wr v (m + 1) R) ∧ F_gm_beginsNow m S (wr v (m + 1) R) = some (wr (wr v m f) (m + 1) R) ∧ eqX (rw v m) f) := by
  have ne1 : m + 1 ≠ m := by omega
  obtain ⟨s1, s2⟩ := gm_waitsForC hN hl hw hI
  refine ⟨fun y => ?_, fun y => ?_⟩
  · have e := gm_beginsNow (v := wr v (m + 1) (iz (mk X (c 4) (tkZ c) (sgK (mt X) (mp X) (3 * c 4) g)))) hl rw_wr
    rw [rw_wr_ne ne1.symm] at e
    refine ⟨_, bgN (rw v m) (c 4) (sgK (mt X) (mp X) (3 * c 4) g 2), s1 y, ?_, eqX_bgN _ _ _, rw_wr, ?_⟩
    · rw [e, wr_comm ne1]
    · rw [rw_wr_ne ne1.symm, rw_wr, Int.sub_self]
      rfl
  · obtain ⟨T', e1, -⟩ := s2 y
    have e := gm_beginsNow (v := wr v (m + 1) (iz (mk X T' c (sgK (mt X) (mp X) 6000002 g)))) hl rw_wr
    rw [rw_wr_ne ne1.symm] at e
    exact ⟨_, _, e1, by rw [e, wr_comm ne1], eqX_bgN _ _ _⟩
theorem mw_s {T : Int} {j : Nat} (hN : 7000000 ≤ N) (hl : mdL S m) (hI : mdI X T c g) (h4 : (tkN j c) 4 ≤ 2000000) (hW : mwS v m X c g j) :
    ((tkN (j + 1) c) 4 ≤ 2000000 → ∃ f R, F_gm_countsTo N m (J 2) (J 4) S v = some (J 1, wr (wr v m f) (m + 1) R) ∧ eqX (rw v m) f ∧ mwS (wr (wr v m f) (m + 1) R) m X c g (j + 1)) ∧
    (2000000 < (tkN (j + 1) c) 4 → ∃ f R, F_gm_countsTo N m (J 2) (J 4) S v = some (J 0, wr (wr v m f) (m + 1) R) ∧ eqX (rw v m) f) := by
  have ne1 : m + 1 ≠ m := by omega
  obtain ⟨hw, hq⟩ := hW
  have hm := tkN_mono hI.2.1 (show 0 ≤ j by omega)
  have h1 := gG_3 hI h4
  have h2 := gG_3 hI (show (tkN 0 c) 4 ≤ 2000000 by omega)
  obtain ⟨s1, s2⟩ := gm_countsToC hN hl hw (mdI_gG hI h4)
  refine ⟨fun y => ?_, fun y => ?_⟩
  · have e := s1 y _ hq (by omega)
    rw [gG_next hI y] at e
    refine ⟨_, _, e, eqX_fdC _ _ _ _, rw_wr, ?_⟩
    rw [rw_wr_ne ne1.symm, rw_wr, fdC_13]
    congr 1
    omega
  · obtain ⟨T', f', e1, -, e3⟩ := s2 y
    exact ⟨f', _, e1, e3⟩
theorem gm_gateForLoop {T n : Int} (hN : 7000000 ≤ N) (hl : mdL S m) (hI : mdI X T c g) (hn : 1 ≤ n ∧ n ≤ 6) : ∀ (f j : Nat) (v : vl), j ≤ 9999 → 9999 - j < f → (tkN j c) 4 ≤ 2000000 → mwS v m X c g j →
    BK m v (wkZ (eB c) (dF (mt X) (mp X) c g n) (9999 - j) (j + 1)) (K_gm_gateFor_39 N f S v m (J n) (J ((j + 1 : Nat) : Int)))
  | 0, j, v, _, h, _, _ => absurd h (Nat.not_lt_zero _)
  | f + 1, j, v, hj, hf, h4, hW => by
    have n1 : ¬ J 1 = J 0 := by decide
    have ne1 : m + 1 ≠ m := by omega
    show BK m v _ (Y_gm_gateFor_39 N (K_gm_gateFor_39 N f S) S v m (J n) (J ((j + 1 : Nat) : Int)))
    unfold Y_gm_gateFor_39
    by_cases q : j = 9999
    · subst q
      rw [if_pos (by decide), grd_true _ hl.1]
      exact BK_bind (BK_back hN hl)
    · obtain ⟨s1, s2⟩ := mw_s hN hl hI h4 hW
      rw [show 9999 - j = (9999 - (j + 1)) + 1 by omega, wkZ_s, if_neg (show ¬ J 9999 < J ((j + 1 : Nat) : Int) from fun z => by have := (J_lt (by decide) (by omega)).mp z; omega), grd_true _ hl.1]
      by_cases y : (tkN (j + 1) c) 4 ≤ 2000000
      · obtain ⟨f1, R, t1, t2, t3⟩ := s1 y
        have gV := gG_3 hI y
        have g0 := gG_3 hI (show (tkN 0 c) 4 ≤ 2000000 by have := tkN_mono hI.2.1 (show 0 ≤ j by omega); omega)
        have hB := dgZ_B (gO (mt X) (mp X) (j + 1) c g)
        have gO0 : 0 ≤ gO (mt X) (mp X) (j + 1) c g ∧ gO (mt X) (mp X) (j + 1) c g ≤ 2100000 := by
          obtain ⟨⟨u, hJ, q0, q1⟩, hc, hc4, -⟩ := id hI
          exact (gG_V hc ⟨⟨u, hJ, q0, q1⟩, hI.2.2.2.2.2.2.1, hI.2.2.2.2.2.2.2⟩ y).2.2.2
        have eg : gG (mt X) (mp X) (j + 1) c g 3 - gG (mt X) (mp X) 0 c g 3 = gO (mt X) (mp X) (j + 1) c g := rfl
        rw [t1, if_pos (eB_1 y)]
        refine BK_wr (R := R) t2 ?_
        simp only [Option.bind_some, n1, if_false, gi_x, t3.2]
        rw [eg, gm_digitsOf (by omega) (by omega)]
        simp only [Option.bind_some]
        by_cases w : n ≤ dgZ (gO (mt X) (mp X) (j + 1) c g)
        · rw [if_neg (show ¬ J (dgZ (gO (mt X) (mp X) (j + 1) c g)) < J n from fun z => by have := (J_lt (by omega) (by omega)).mp z; omega), if_pos (show dF (mt X) (mp X) c g n (j + 1) = true from decide_eq_true w)]
          exact BK_bind (BK_back hN hl)
        · rw [if_pos ((J_lt (by omega) (by omega)).mpr (show dgZ (gO (mt X) (mp X) (j + 1) c g) < n by omega)), if_neg (show ¬ dF (mt X) (mp X) c g n (j + 1) = true from fun z => w (of_decide_eq_true z)), J_s]
          exact gm_gateForLoop hN hl hI hn f (j + 1) _ (by omega) (by omega) y t3
      · obtain ⟨f1, R, t1, t2⟩ := s2 (by omega)
        rw [t1, if_neg (eB_0 y)]
        refine BK_wr (R := R) t2 ?_
        simp only [Option.bind_some, if_true]
        exact BK_bind (BK_back hN hl)
theorem gm_noDigits {n : Int} (hl : mdL S m) (hn : -2147483648 ≤ n ∧ n < 2147483648) : F_gm_noDigits m (J n) S v = some (if 1 ≤ n ∧ n ≤ 6 then (J 0, v) else (J 1, th v m 1)) := by
  have n1 : ¬ J 1 = J 0 := by decide
  unfold F_gm_noDigits
  rw [gm_inRange hn (by decide) (by decide)]
  simp only [Option.bind_some]
  by_cases z : 1 ≤ n ∧ n ≤ 6
  · rw [if_pos z, if_neg n1, if_pos z, grd_true _ hl.1, gm_fails0]
    simp only [Option.bind_some]
    rw [grd_true _ (by decide)]
  · rw [if_neg z, if_pos rfl, if_neg z, grd_true _ hl.1, gm_fails1 hl]
    simp only [Option.bind_some]
    rw [grd_true _ (by decide)]
theorem gO_congr {t' p' : Nat → Int} {i : Nat} (h9 : 0 ≤ g 9) (hh : ∀ i : Nat, (i : Int) < g 8 → t i = t' i ∧ p i = p' i) : gO t p i c g = gO t' p' i c g := by
  unfold gO
  rw [gG_congr h9 hh, gG_congr h9 hh]
theorem gm_gateFor {n : Int} (hN : 7000000 ≤ N) (hR : dR S v m (h, c, g, t, p, M) sv ps re ca ch) (hV : stV h c g t p M) (hn : -2147483648 ≤ n ∧ n < 2147483648) :
    QM (F_gm_gateFor N m (J n) S v) (rgO 1 6 n (gfZ t p c g n)) (fun v' => mqt m v v' (oThr (rgO 1 6 n (gfZ t p c g n)))) := by
  obtain ⟨hl, h1, -⟩ := hR
  have n1 : ¬ J 1 = J 0 := by decide
  have h9 := (stV_8 hV).1
  unfold F_gm_gateFor
  rw [grd_true _ hl.1]
  simp only [lt_def, si_th]
  rw [gm_noDigits hl hn]
  unfold rgO
  by_cases z : 1 ≤ n ∧ n ≤ 6
  · rw [if_pos z, if_pos z]
    simp only [Option.bind_some, if_true]
    rw [gm_thinks (by omega) hl]
    simp only [Option.bind_some]
    obtain ⟨X, x0, x5, x6, x7, hag, hI⟩ := thinkX (v := th v m 0) (m := m) (h := h) (c := c) (g := g) (t := t) (p := p) (M := M) (th_rowM h1) hV
    obtain ⟨w1, w2⟩ := mw_0 hN hl x0 hI
    have ed : dF t p c g n = dF (mt X) (mp X) c g n := by
      funext i
      unfold dF
      rw [gO_congr h9 hag]
    have main : BK m (wr (th v m 0) (m + 3) (cpR (rw (th v m 0) (m + 1)) (rw (th v m 0) (m + 3)) 0 0 199)) (gfZ t p c g n) ((F_gm_waitsFor N m (J 2) S (wr (th v m 0) (m + 3) (cpR (rw (th v m 0) (m + 1)) (rw (th v m 0) (m + 3)) 0 0 199))).bind fun (x6, w7) => (if x6 = (J 0) then (F_gm_back N m (J (-1)) S w7).bind fun (x8, w9) => some ((x8, w9)) else (F_gm_beginsNow m S w7).bind fun w10 => K_gm_gateFor_39 N N S w10 m (J n) (J 1))) := by
      unfold gfZ
      rw [ed]
      by_cases y : c 4 ≤ 2000000
      · obtain ⟨R, f, e1, e2, e3, e4⟩ := w1 y
        rw [e1, if_pos y]
        simp only [Option.bind_some, n1, if_false]
        rw [e2]
        exact BK_wr e3 (gm_gateForLoop hN hl hI z N 0 _ (by decide) (by omega) y e4)
      · obtain ⟨R, f, e1, e2, e3⟩ := w2 (by omega)
        rw [e1, if_neg y]
        simp only [Option.bind_some, if_true]
        exact BK_wr1 (BK_bind (BK_back hN hl))
    obtain ⟨v', e1, e2⟩ := BK_mq main
    exact ⟨v', e1, mqt_mq e2⟩
  · rw [if_neg z, if_neg z]
    simp only [Option.bind_some, n1, if_false]
    rw [th_th]
    exact ⟨_, rfl, mqt_th⟩
theorem gm_longestGateEnd {k : Int} {v : vl} (hN : 7000000 ≤ N) (hl : mdL S m) (hk : 0 ≤ k ∧ k ≤ 9999) : BK m v (if k = 0 then -1 else k) (if J k = (J 0) then grd (kin S m = some (0, 6)) <| (F_gm_back N m (J (-1)) S v).bind fun (x8, w9) => some ((x8, w9)) else grd (kin S m = some (0, 6)) <| (F_gm_back N m (J k) S v).bind fun (x11, w12) => some ((x11, w12))) := by
  rw [grd_true _ hl.1, grd_true _ hl.1]
  by_cases q : k = 0
  · rw [if_pos q, if_pos (by rw [q])]
    exact BK_bind (BK_back hN hl)
  · rw [if_neg q, if_neg (fun z => q ((J_eq (by omega) (by decide)).mp z))]
    exact BK_bind (BK_back hN hl)
theorem gm_longestGateLoop {T : Int} (hN : 7000000 ≤ N) (hl : mdL S m) (hI : mdI X T c g) : ∀ (f j : Nat) (v : vl), j ≤ 9999 → 9999 - j + 1 < f → (tkN j c) 4 ≤ 2000000 → mwS v m X c g j →
    BK m v (lgZ (eB c) (9999 - j) (j + 1) (if (j : Int) = 0 then -1 else (j : Int))) (K_gm_longestGate_21 N f S v m (J (j : Int)) (J 1))
  | 0, j, v, _, h, _, _ => absurd h (Nat.not_lt_zero _)
  | 1, j, v, _, h, _, _ => absurd h (by omega)
  | f + 2, j, v, hj, hf, h4, hW => by
    have n1 : ¬ J 1 = J 0 := by decide
    have ne1 : m + 1 ≠ m := by omega
    show BK m v _ (Y_gm_longestGate_21 N (K_gm_longestGate_21 N (f + 1) S) S v m (J (j : Int)) (J 1))
    unfold Y_gm_longestGate_21
    rw [if_neg n1]
    by_cases q : j = 9999
    · subst q
      rw [if_neg (show ¬ J ((9999 : Nat) : Int) < J 9999 by decide)]
      exact gm_longestGateEnd hN hl (by decide)
    · obtain ⟨s1, s2⟩ := mw_s hN hl hI h4 hW
      rw [show 9999 - j = (9999 - (j + 1)) + 1 by omega, lgZ_s, if_pos (show J (j : Int) < J 9999 from (J_lt (by omega) (by decide)).mpr (by omega)), grd_true _ hl.1]
      by_cases y : (tkN (j + 1) c) 4 ≤ 2000000
      · obtain ⟨f1, R, t1, t2, t3⟩ := s1 y
        rw [t1, if_pos (eB_1 y)]
        refine BK_wr (R := R) t2 ?_
        simp only [Option.bind_some, n1, if_false]
        rw [J_s]
        have := gm_longestGateLoop hN hl hI (f + 1) (j + 1) _ (by omega) (by omega) y t3
        rw [if_neg (show ¬ ((j + 1 : Nat) : Int) = 0 by omega)] at this
        exact this
      · obtain ⟨f1, R, t1, t2⟩ := s2 (by omega)
        rw [t1, if_neg (eB_0 y)]
        refine BK_wr (R := R) t2 ?_
        simp only [Option.bind_some, if_true]
        rw [← J_add, Int.add_zero]
        show BK m _ _ (Y_gm_longestGate_21 N (K_gm_longestGate_21 N f S) S _ m (J (j : Int)) (J 0))
        unfold Y_gm_longestGate_21
        rw [if_pos rfl]
        exact gm_longestGateEnd hN hl (by omega)
theorem gm_longestGate (hN : 7000000 ≤ N) (hR : dR S v m (h, c, g, t, p, M) sv ps re ca ch) (hV : stV h c g t p M) :
    QM (F_gm_longestGate N m S v) (.inr (lnZ c)) (fun v' => mqt m v v' 0) := by
  obtain ⟨hl, h1, -⟩ := hR
  unfold F_gm_longestGate
  rw [grd_true _ hl.1]
  simp only [lt_def, si_th]
  rw [gm_thinks (by omega) hl]
  simp only [Option.bind_some]
  obtain ⟨X, x0, x5, x6, x7, hag, hI⟩ := thinkX (v := th v m 0) (m := m) (h := h) (c := c) (g := g) (t := t) (p := p) (M := M) (th_rowM h1) hV
  obtain ⟨w1, w2⟩ := mw_0 hN hl x0 hI
  have main : BK m (wr (th v m 0) (m + 3) (cpR (rw (th v m 0) (m + 1)) (rw (th v m 0) (m + 3)) 0 0 199)) (lnZ c) ((F_gm_waitsFor N m (J 2) S (wr (th v m 0) (m + 3) (cpR (rw (th v m 0) (m + 1)) (rw (th v m 0) (m + 3)) 0 0 199))).bind fun (x4, w5) => (F_gm_beginsNow m S w5).bind fun w6 => K_gm_longestGate_21 N N S w6 m (J 0) x4) := by
    unfold lnZ
    by_cases y : c 4 ≤ 2000000
    · obtain ⟨R, f, e1, e2, e3, e4⟩ := w1 y
      rw [e1, if_pos y]
      simp only [Option.bind_some]
      rw [e2]
      exact BK_wr e3 (gm_longestGateLoop hN hl hI N 0 _ (by decide) (by omega) y e4)
    · obtain ⟨R, f, e1, e2, e3⟩ := w2 (by omega)
      rw [e1, if_neg y]
      simp only [Option.bind_some]
      rw [e2]
      refine BK_wr (R := R) e3 ?_
      obtain ⟨n, rfl⟩ : ∃ n, N = n + 1 := ⟨N - 1, by omega⟩
      show BK m _ _ (Y_gm_longestGate_21 (n + 1) (K_gm_longestGate_21 (n + 1) n S) S _ m (J 0) (J 0))
      unfold Y_gm_longestGate_21
      rw [if_pos rfl]
      exact gm_longestGateEnd (k := 0) hN hl (by decide)
  obtain ⟨v', e1, e2⟩ := BK_mq main
  exact ⟨v', e1, mqt_mq e2⟩
end WALK
