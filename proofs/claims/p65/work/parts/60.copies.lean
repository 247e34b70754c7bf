/-! What changes in shapes: measurements are made, kept, copied. -/
section SHAPES
/-- rows b to b + n alone, and new cells, have changed -/
def exi (b n k l : Nat) (S : shp) (v : vl) (S' : shp) (v' : vl) : Prop := (∀ a, a < nxt S → v'.2 a = v.2 a) ∧ (∀ a, (a < b ∨ b + n ≤ a) → a < nxt S → rw v' a = rw v a ∧ ∀ j, gr S' a j = gr S a j) ∧ (∀ a, a < nxt S → kin S' a = kin S a) ∧ kad S' = kad S ∧ bas S' = bas S ∧ (cn S ≤ cn S' ∧ cn S' ≤ cn S + k) ∧ (cz S ≤ cz S' ∧ cz S' ≤ cz S + l) ∧ ((∀ a, nxt S ≤ a → kin S a = none) → ∀ a, nxt S' ≤ a → kin S' a = none)
def wfS (S : shp) : Prop := ∀ a, nxt S ≤ a → kin S a = none
theorem exi_tr {b n k l k' l' : Nat} {S S1 S2 : shp} {v v1 v2 : vl} (h1 : exi b n k l S v S1 v1) (h2 : exi b n k' l' S1 v1 S2 v2) : exi b n (k + k') (l + l') S v S2 v2 := by
  obtain ⟨a1, a2, a3, a4, a5, a6, a7, a8⟩ := h1
  obtain ⟨c1, c2, c3, c4, c5, c6, c7, c8⟩ := h2
  have hn : nxt S ≤ nxt S1 := by unfold nxt; omega
  refine ⟨fun a ha => (c1 a (by omega)).trans (a1 a ha), fun a ha hb => ?_, fun a ha => (c3 a (by omega)).trans (a3 a ha), c4.trans a4, c5.trans a5, by omega, by omega, fun h => c8 (a8 h)⟩
  obtain ⟨x1, x2⟩ := a2 a ha hb
  obtain ⟨y1, y2⟩ := c2 a ha (by omega)
  exact ⟨y1.trans x1, fun j => (y2 j).trans (x2 j)⟩
theorem exi_fri {b n : Nat} {S : shp} {v v' : vl} (h : fri b n v v') : exi b n 0 0 S v S v' := ⟨fun a _ => by rw [h.1], fun a ha _ => ⟨h.2 a ha, fun _ => rfl⟩, fun _ _ => rfl, rfl, rfl, ⟨Nat.le_refl _, Nat.le_refl _⟩, ⟨Nat.le_refl _, Nat.le_refl _⟩, fun h => h⟩
theorem exi_wf {b n k l : Nat} {S S' : shp} {v v' : vl} (h : exi b n k l S v S' v') (hw : wfS S) : wfS S' := h.2.2.2.2.2.2.2 hw
theorem kin_lt {S : shp} {a : Nat} {k : kd} (hw : wfS S) (h : kin S a = some k) : a < nxt S := by
  by_cases q : a < nxt S
  · exact q
  · rw [hw a (by omega)] at h; cases h
theorem exi_kin {b n k l : Nat} {S S' : shp} {v v' : vl} {a : Nat} {d : kd} (h : exi b n k l S v S' v') (hw : wfS S) (ha : kin S a = some d) : kin S' a = some d := by
  rw [h.2.2.1 a (kin_lt hw ha)]; exact ha
theorem exi_gr {b n k l : Nat} {S S' : shp} {v v' : vl} {a j : Nat} {d : kd} (h : exi b n k l S v S' v') (hw : wfS S) (ha : kin S a = some d) (hb : a < b ∨ b + n ≤ a) : gr S' a j = gr S a j :=
  (h.2.1 a hb (kin_lt hw ha)).2 j
theorem exi_rw {b n k l : Nat} {S S' : shp} {v v' : vl} {a : Nat} {d : kd} (h : exi b n k l S v S' v') (hw : wfS S) (ha : kin S a = some d) (hb : a < b ∨ b + n ≤ a) : rw v' a = rw v a :=
  (h.2.1 a hb (kin_lt hw ha)).1
-- a row of references changes
def onr (a : Nat) (S S' : shp) : Prop := S'.1 = S.1 ∧ S'.2.2 = S.2.2 ∧ ∀ x, x ≠ a → ∀ j, gr S' x j = gr S x j
theorem onr_refl (a : Nat) (S : shp) : onr a S S := ⟨rfl, rfl, fun _ _ _ => rfl⟩
theorem onr_tr {a : Nat} {S S1 S2 : shp} (h1 : onr a S S1) (h2 : onr a S1 S2) : onr a S S2 := ⟨h2.1.trans h1.1, h2.2.1.trans h1.2.1, fun x hx j => (h2.2.2 x hx j).trans (h1.2.2 x hx j)⟩
theorem onr_kin {a b : Nat} {S S' : shp} (h : onr a S S') : kin S' b = kin S b := by unfold kin; rw [h.1]
theorem gr_sr {S : shp} {a k b j : Nat} {x : Option Nat} : gr (sr S a k x) b j = if b = a ∧ j = k then x else gr S b j := rfl
theorem onr_sr {S : shp} {a k : Nat} {x : Option Nat} : onr a S (sr S a k x) := ⟨rfl, rfl, fun y hy j => by rw [gr_sr, if_neg (fun q => hy q.1)]⟩
theorem onr_exi {a b n : Nat} {S S' : shp} {v : vl} (h : onr a S S') (ha : b ≤ a ∧ a < b + n) : exi b n 0 0 S v S' v := by
  have e1 : bas S' = bas S := by unfold bas; rw [h.2.1]
  have e2 : cn S' = cn S := by unfold cn; rw [h.2.1]
  have e3 : cz S' = cz S := by unfold cz; rw [h.2.1]
  have e4 : kad S' = kad S := by unfold kad; rw [h.2.1]
  refine ⟨fun _ _ => rfl, fun x hx _ => ⟨rfl, h.2.2 x (by omega)⟩, fun x _ => onr_kin h, e4, e1, by omega, by omega, fun hw x hx => ?_⟩
  rw [onr_kin h]
  exact hw x (by unfold nxt at hx ⊢; omega)
-- a new cell
theorem kin_grow {S : shp} {k : kd} {z a : Nat} : kin (grow S k z) a = if a = nxt S then some k else kin S a := rfl
theorem gr_grow {S : shp} {k : kd} {z a j : Nat} : gr (grow S k z) a j = if a = nxt S then none else gr S a j := rfl
theorem rw_zero {v : vl} {a b : Nat} (h : b ≠ a) : rw (zero v a) b = rw v b := by
  funext k
  show (if b = a then 0 else v.1 b k) = v.1 b k
  rw [if_neg h]
theorem exi_grow {b n z : Nat} {S : shp} {v : vl} {k : kd} : exi b n 1 z S v (grow S k z) (zero v (nxt S)) := by
  refine ⟨fun a ha => ?_, fun a _ ha => ⟨rw_zero (by omega), fun j => by rw [gr_grow, if_neg (by omega)]⟩, fun a ha => by rw [kin_grow, if_neg (by omega)], rfl, rfl, ⟨Nat.le_succ _, Nat.le_refl _⟩, ⟨Nat.le_add_right _ _, Nat.le_refl _⟩, fun hw a ha => ?_⟩
  · funext j
    show (if a = nxt S then 0 else v.2 a j) = v.2 a j
    rw [if_neg (by omega)]
  · have e : nxt (grow S k z) = nxt S + 1 := rfl
    rw [kin_grow, if_neg (by omega)]
    exact hw a (by omega)
/-- a write to a row that is new -/
theorem exi_new {b n k l a : Nat} {S S' : shp} {v v' : vl} {f : Nat → Int32} (h : exi b n k l S v S' v') (ha : nxt S ≤ a) : exi b n k l S v S' (wr v' a f) := by
  obtain ⟨a1, a2, a3, a4⟩ := h
  exact ⟨a1, fun x hx hb => ⟨(rw_wr_ne (by omega)).trans (a2 x hx hb).1, (a2 x hx hb).2⟩, a3, a4⟩
-- measurements
theorem msR_exi {b x k l : Nat} {S S' : shp} {v v' : vl} {n : Int} {M : Nat → Nat → Int} {d : kd} (h : msR S v x n M) (hl : stL S b) (hw : wfS S) (hx : kin S x = some d) (hxb : x < b ∨ b + 6 ≤ x) (he : exi b 6 k l S v S' v') : msR S' v' x n M := by
  intro i hi
  obtain ⟨r, r1, r2, r3⟩ := h i hi
  exact ⟨r, (exi_gr he hw hx hxb).trans r1, exi_kin he hw r2, by rw [exi_rw he hw r2 (stM_ne hl r2)]; exact r3⟩
theorem stL_exi {b x k l n : Nat} {S S' : shp} {v v' : vl} (h : stL S x) (hw : wfS S) (hxb : x + 6 ≤ b ∨ b + n ≤ x) (he : exi b n k l S v S' v') : stL S' x := by
  obtain ⟨k0, r6, k1, r7, ⟨k2, k3, k4, r9, r10⟩, r8, k5⟩ := h
  exact ⟨exi_kin he hw k0, (exi_gr he hw k0 (by omega)).trans r6, exi_kin he hw k1, (exi_gr he hw k0 (by omega)).trans r7, ⟨exi_kin he hw k2, exi_kin he hw k3, exi_kin he hw k4, (exi_gr he hw k2 (by omega)).trans r9, (exi_gr he hw k2 (by omega)).trans r10⟩, (exi_gr he hw k0 (by omega)).trans r8, exi_kin he hw k5⟩
theorem stM_exi {b x k l n : Nat} {S S' : shp} {v v' : vl} {h c g t p : Nat → Int} (hM : stM S v x h c g t p) (hw : wfS S) (hxb : x + 6 ≤ b ∨ b + n ≤ x) (he : exi b n k l S v S' v') : stM S' v' x h c g t p := by
  obtain ⟨hl, a1, a2, a3, a4, a5⟩ := hM
  obtain ⟨k0, r6, k1, r7, ⟨k2, k3, k4, r9, r10⟩, r8, k5⟩ := id hl
  have hl' := stL_exi hl hw hxb he
  refine ⟨hl', ?_, ?_, hl'.2.2.2.2.1, ?_, fun i hi => ?_⟩
  · rw [exi_rw he hw k0 (by omega)]; exact a1
  · rw [exi_rw he hw k1 (by omega)]; exact a2
  · rw [exi_rw he hw k2 (by omega)]; exact a4
  · rw [exi_rw he hw k3 (by omega), exi_rw he hw k4 (by omega)]; exact a5 i hi
/-- the state at b in shapes that differ in its row of measurements alone -/
theorem stL_onr {b : Nat} {S S' : shp} (h : stL S b) (ho : onr (b + 5) S S') : stL S' b := by
  obtain ⟨k0, r6, k1, r7, ⟨k2, k3, k4, r9, r10⟩, r8, k5⟩ := h
  have e := fun a => onr_kin (b := a) ho
  exact ⟨(e _).trans k0, (ho.2.2 _ (by omega) _).trans r6, (e _).trans k1, (ho.2.2 _ (by omega) _).trans r7, ⟨(e _).trans k2, (e _).trans k3, (e _).trans k4, (ho.2.2 _ (by omega) _).trans r9, (ho.2.2 _ (by omega) _).trans r10⟩, (ho.2.2 _ (by omega) _).trans r8, (e _).trans k5⟩
theorem stM_onr {b : Nat} {S S' : shp} {v : vl} {h c g t p : Nat → Int} (hM : stM S v b h c g t p) (ho : onr (b + 5) S S') : stM S' v b h c g t p := by
  obtain ⟨hl, a1, a2, a3, a4, a5⟩ := hM
  have hl' := stL_onr hl ho
  exact ⟨hl', a1, a2, hl'.2.2.2.2.1, a4, a5⟩
theorem st_forgetLoop {v : vl} {b N : Nat} {K : Int} (h5 : rw v b 5 = J K) (hK : 1 ≤ K ∧ K ≤ 20) : ∀ (n i : Nat) (S : shp), kin S b = some (0, 4) → gr S b 8 = some (b + 5) → kin S (b + 5) = some (5, 20) → (∀ j : Nat, i ≤ j → (j : Int) + 1 < K → ∃ r, gr S (b + 5) (j + 1) = some r ∧ kin S r = some (0, 1)) → (i : Int) + 1 ≤ K → K - i ≤ n →
    ∃ S', K_st_forget_6 N n S v b (J i) = some (S', wr v b (up (rw v b) 5 (J (K - 1)))) ∧ onr (b + 5) S S' ∧ ∀ j : Nat, gr S' (b + 5) j = if i ≤ j ∧ (j : Int) + 1 < K then gr S (b + 5) (j + 1) else gr S (b + 5) j
  | 0, i, S, k0, r8, k5, hr, hi1, hn => absurd hn (by omega)
  | n + 1, i, S, k0, r8, k5, hr, hi1, hn => by
    have t1 : (J (K - 1)).toInt = K - 1 := J_toInt (by omega) (by omega)
    have ti : (J (i : Int)).toInt = i := J_toInt (by omega) (by omega)
    show ∃ S', Y_st_forget_6 N (K_st_forget_6 N n) S v b (J i) = _ ∧ _
    unfold Y_st_forget_6
    rw [grd_true _ k0, gi_rw, h5, show J K - J 1 = J (K - 1) from (J_sub K 1).symm]
    by_cases hi : (i : Int) + 1 < K
    · have ti1 : (J (i : Int) + J 1).toInt = ((i + 1 : Nat) : Int) := by rw [← J_add]; exact J_toInt (by omega) (by omega)
      obtain ⟨r, r1, r2⟩ := hr i (Nat.le_refl _) hi
      rw [if_pos (i_lt.mpr (by rw [ti, t1]; omega)), r8]
      simp only [Option.bind_some]
      rw [grd_true _ k5, grd_true _ (vin_of k5 ti1 (by omega)), clampT ti1, r1]
      simp only [Option.bind_some]
      rw [grd_true _ (vin_of k5 ti (by omega)), grd_true _ r2, clampT ti]
      simp only [lt_def]
      obtain ⟨S', q1, q2, q3⟩ := st_forgetLoop (N := N) h5 hK n (i + 1) (sr S (b + 5) i (some r)) k0 (by rw [gr_sr, if_neg (by omega)]; exact r8) k5 (fun j h1 h2 => by
        rw [gr_sr, if_neg (by omega)]
        exact hr j (by omega) h2) (by omega) (by omega)
      refine ⟨S', ?_, onr_tr onr_sr q2, fun j => ?_⟩
      · rw [← J_add]
        exact q1
      · rw [q3 j]
        by_cases z : i = j
        · subst z
          rw [if_neg (by omega), if_pos ⟨Nat.le_refl _, hi⟩, gr_sr, if_pos ⟨rfl, rfl⟩, r1]
        · by_cases y : i + 1 ≤ j ∧ (j : Int) + 1 < K
          · rw [if_pos y, if_pos ⟨by omega, y.2⟩, gr_sr, if_neg (by omega)]
          · rw [if_neg y, if_neg (by omega), gr_sr, if_neg (by omega)]
    · rw [if_neg (fun q => by have := i_lt.mp q; rw [ti, t1] at this; omega)]
      simp only [lt_def, si_wr]
      refine ⟨S, rfl, onr_refl _ _, fun j => ?_⟩
      rw [if_neg (by omega)]
/-- the first is dropped -/
theorem st_forget {S : shp} {v : vl} {b N : Nat} {h c g t p : Nat → Int} {M : Nat → Nat → Int} {i : Nat} (hN : 100 ≤ N) (hM : stM S v b h c g t p) (hm : msR S v (b + 5) (h 5) M) (hi : (i : Int) < h 5) (h5 : h 5 ≤ 20) :
    ∃ S' v', F_st_forget N b (J i) S v = some (S', v') ∧ stM S' v' b (fun k => if k = 5 then h 5 - 1 else h k) c g t p ∧ msR S' v' (b + 5) (h 5 - 1) (fun j => if j < i then M j else M (j + 1)) ∧ exi b 6 0 0 S v S' v' := by
  obtain ⟨hl, hh, hcc, hgg⟩ := id hM
  obtain ⟨k0, r6, k1, r7, l2, r8, k5⟩ := id hl
  have e5 : rw v b 5 = J (h 5) := hh 5 (by decide)
  have ti : (J (i : Int)).toInt = i := J_toInt (by omega) (by omega)
  unfold F_st_forget
  rw [ma_max]
  simp only [Option.bind_some]
  have e : (if J 0 < J (i : Int) then J (i : Int) else J 0) = J (i : Int) := by
    split
    · rfl
    · rename_i q
      have : ¬ (0 : Int) < i := fun z => q (i_lt.mpr (by rw [ti, tJ]; exact z))
      rw [show (i : Int) = 0 by omega]
  rw [e]
  obtain ⟨S', q1, q2, q3⟩ := st_forgetLoop (N := N) e5 (show 1 ≤ h 5 ∧ h 5 ≤ 20 by omega) N i S k0 r8 k5 (fun j h1 h2 => by
    obtain ⟨r, r1, r2, -⟩ := hm (j + 1) (by omega)
    exact ⟨r, r1, r2⟩) (by omega) (by omega)
  refine ⟨S', _, q1, ?_, fun j hj => ?_, ?_⟩
  · obtain ⟨a0, a1, a2, a3, a4, a5⟩ := stM_onr hM q2
    refine ⟨a0, ?_, ?_, a3, ?_, fun i hi => ?_⟩
    · rw [rw_wr]; exact ag_up hh
    · rw [rw_wr_ne (by omega)]; exact a2
    · rw [rw_wr_ne (by omega)]; exact a4
    · rw [rw_wr_ne (by omega), rw_wr_ne (by omega)]; exact a5 i hi
  · rw [q3 j]
    by_cases z : i ≤ j ∧ (j : Int) + 1 < h 5
    · obtain ⟨r, r1, r2, r3⟩ := hm (j + 1) (by omega)
      rw [if_pos z]
      refine ⟨r, r1, (onr_kin q2).trans r2, ?_⟩
      show ag 7 _ (if j < i then M j else M (j + 1))
      rw [if_neg (by omega), rw_wr_ne (by have := stM_ne hl r2; omega)]
      exact r3
    · obtain ⟨r, r1, r2, r3⟩ := hm j (by omega)
      rw [if_neg z]
      refine ⟨r, r1, (onr_kin q2).trans r2, ?_⟩
      show ag 7 _ (if j < i then M j else M (j + 1))
      rw [if_pos (by omega), rw_wr_ne (by have := stM_ne hl r2; omega)]
      exact r3
  · have a1 : exi b 6 0 0 S v S' v := onr_exi q2 (by omega)
    exact exi_tr a1 (exi_fri (fri_wr (by omega)))
/-- measurements behind one more: the latest 20 stay -/
def kpM (n : Int) (M : Nat → Nat → Int) (z : Nat → Int) : Nat → Nat → Int := fun j => if n < 20 then (if (j : Int) = n then z else M j) else (if j = 19 then z else M (j + 1))
def kpN (n : Int) : Int := if n < 20 then n + 1 else 20
theorem st_keep14 {S : shp} {v : vl} {b r N : Nat} {h c g t p : Nat → Int} {M : Nat → Nat → Int} {z : Nat → Int} (hM : stM S v b h c g t p) (hm : msR S v (b + 5) (h 5) M) (hr : kin S r = some (0, 1)) (hz : ag 7 (rw v r) z) (h5 : 0 ≤ h 5 ∧ h 5 < 20) :
    ∃ S' v', K_st_keep_14 N S v b r = some (S', v') ∧ stM S' v' b (fun k => if k = 4 then h 4 + 1 else if k = 5 then h 5 + 1 else h k) c g t p ∧ msR S' v' (b + 5) (h 5 + 1) (fun j => if (j : Int) = h 5 then z else M j) ∧ exi b 6 0 0 S v S' v' := by
  obtain ⟨hl, hh, hcc, hgg⟩ := id hM
  obtain ⟨k0, r6, k1, r7, l2, r8, k5⟩ := id hl
  have e5 : rw v b 5 = J (h 5) := hh 5 (by decide)
  have e4 : rw v b 4 = J (h 4) := hh 4 (by decide)
  have e : ((h 5).toNat : Int) = h 5 := by omega
  have t5 : (J (h 5)).toInt = (((h 5).toNat : Nat) : Int) := by rw [e]; exact J_toInt (by omega) (by omega)
  unfold K_st_keep_14
  rw [grd_true _ k0, r8]
  simp only [Option.bind_some]
  rw [grd_true _ k5, gi_rw, e5, grd_true _ (vin_of k5 t5 (by omega)), grd_true _ hr, clampT t5]
  simp only [lt_def, si_wr, gi_x, wr_wr, rw_wr, e5]
  have ho : onr (b + 5) S (sr S (b + 5) (h 5).toNat (some r)) := onr_sr
  have n4 : up (rw v b) 5 (J (h 5) + J 1) 4 = J (h 4) := by rw [up_ne (by decide), e4]
  refine ⟨_, _, rfl, ?_, fun j hj => ?_, ?_⟩
  · obtain ⟨a0, a1, a2, a3, a4, a5⟩ := stM_onr hM ho
    refine ⟨a0, ?_, ?_, a3, ?_, fun i hi => ?_⟩
    · rw [rw_wr, n4, ← J_add, ← J_add]
      exact ag_up (ag_up hh)
    · rw [rw_wr_ne (by omega)]; exact a2
    · rw [rw_wr_ne (by omega)]; exact a4
    · rw [rw_wr_ne (by omega), rw_wr_ne (by omega)]; exact a5 i hi
  · rw [gr_sr]
    by_cases y : (j : Int) = h 5
    · rw [if_pos ⟨rfl, by omega⟩]
      refine ⟨r, rfl, hr, ?_⟩
      show ag 7 _ (if (j : Int) = h 5 then z else M j)
      rw [if_pos y, rw_wr_ne (by have := stM_ne hl hr; omega)]
      exact hz
    · obtain ⟨r', r1, r2, r3⟩ := hm j (by omega)
      rw [if_neg (by omega)]
      refine ⟨r', r1, r2, ?_⟩
      show ag 7 _ (if (j : Int) = h 5 then z else M j)
      rw [if_neg y, rw_wr_ne (by have := stM_ne hl r2; omega)]
      exact r3
  · have a1 : exi b 6 0 0 S v (sr S (b + 5) (h 5).toNat (some r)) v := onr_exi ho (by omega)
    exact exi_tr a1 (exi_fri (fri_wr (by omega)))
theorem st_keep {S : shp} {v : vl} {b r N : Nat} {h c g t p : Nat → Int} {M : Nat → Nat → Int} {z : Nat → Int} (hN : 100 ≤ N) (hw : wfS S) (hM : stM S v b h c g t p) (hm : msR S v (b + 5) (h 5) M) (hr : kin S r = some (0, 1)) (hz : ag 7 (rw v r) z) (h5 : 0 ≤ h 5 ∧ h 5 ≤ 20) :
    ∃ S' v', F_st_keep N b r S v = some (S', v') ∧ stM S' v' b (fun k => if k = 4 then h 4 + 1 else if k = 5 then kpN (h 5) else h k) c g t p ∧ msR S' v' (b + 5) (kpN (h 5)) (kpM (h 5) M z) ∧ exi b 6 0 0 S v S' v' := by
  have e5 : rw v b 5 = J (h 5) := hM.2.1 5 (by decide)
  have t5 : (J (h 5)).toInt = h 5 := J_toInt (by omega) (by omega)
  unfold F_st_keep
  rw [grd_true _ hM.1.1, gi_rw, e5]
  by_cases q : h 5 < 20
  · rw [if_pos (i_lt.mpr (by rw [t5, tJ]; exact q))]
    obtain ⟨S', v', q1, q2, q3, q4⟩ := st_keep14 (N := N) hM hm hr hz ⟨h5.1, q⟩
    refine ⟨S', v', q1, ?_, ?_, q4⟩
    · unfold kpN
      rw [if_pos q]
      exact q2
    · unfold kpN kpM
      rw [if_pos q]
      intro i hi
      obtain ⟨r', y1, y2, y3⟩ := q3 i hi
      refine ⟨r', y1, y2, ?_⟩
      show ag 7 _ (if h 5 < 20 then (if (i : Int) = h 5 then z else M i) else (if i = 19 then z else M (i + 1)))
      rw [if_pos q]
      exact y3
  · rw [if_neg (fun y => q (by have := i_lt.mp y; rw [t5, tJ] at this; exact this))]
    have h20 : h 5 = 20 := by omega
    obtain ⟨S1, v1, q1, q2, q3, q4⟩ := st_forget (i := 0) hN hM hm (by omega) h5.2
    have q1' : F_st_forget N b (J 0) S v = some (S1, v1) := q1
    rw [q1']
    simp only [Option.bind_some]
    have hr1 := exi_kin q4 hw hr
    have hz1 : ag 7 (rw v1 r) z := by rw [exi_rw q4 hw hr (stM_ne hM.1 hr)]; exact hz
    obtain ⟨S', v', p1, p2, p3, p4⟩ := st_keep14 (N := N) q2 q3 hr1 hz1 (by show 0 ≤ h 5 - 1 ∧ h 5 - 1 < 20; omega)
    refine ⟨S', v', p1, ?_, ?_, exi_tr q4 p4⟩
    · refine ⟨p2.1, fun k hk => ?_, p2.2.2⟩
      rw [p2.2.1 k hk]
      unfold kpN
      rw [if_neg q]
      show J (if k = 4 then h 4 + 1 else if k = 5 then h 5 - 1 + 1 else if k = 5 then h 5 - 1 else h k) = J (if k = 4 then h 4 + 1 else if k = 5 then 20 else h k)
      congr 1
      split
      · rfl
      · split
        · omega
        · rfl
    · unfold kpN kpM
      rw [if_neg q]
      intro i hi
      obtain ⟨r', y1, y2, y3⟩ := p3 i (by show (i : Int) < h 5 - 1 + 1; omega)
      refine ⟨r', y1, y2, ?_⟩
      show ag 7 _ (if h 5 < 20 then (if (i : Int) = h 5 then z else M i) else (if i = 19 then z else M (i + 1)))
      rw [if_neg q]
      have e : (if (i : Int) = h 5 - 1 then z else if i < 0 then M i else M (i + 1)) = (if i = 19 then z else M (i + 1)) := by
        by_cases y : i = 19
        · rw [if_pos (by omega), if_pos y]
        · rw [if_neg (by omega), if_neg y, if_neg (by omega)]
      rw [← e]
      exact y3
-- copies
theorem cpy_wr {v : vl} {a0 a : Nat} : cpy v a0 0 a 0 8 = wr v a (fun k => if k < 8 then rw v a0 k else rw v a k) := by
  unfold cpy wr rw
  refine Prod.ext ?_ rfl
  funext b k
  show (if b = a ∧ 0 ≤ k ∧ k < 0 + 8 then v.1 a0 (0 + (k - 0)) else v.1 b k) = (if b = a then _ else v.1 b) k
  by_cases h : b = a
  · subst h
    rw [if_pos rfl]
    by_cases h2 : k < 8
    · rw [if_pos ⟨rfl, by omega, by omega⟩, if_pos h2]
      rw [Nat.zero_add, Nat.sub_zero]
    · rw [if_neg (by omega), if_neg h2]
  · rw [if_neg (fun q => h q.1), if_neg h]
theorem ck_copy {S : shp} {v : vl} {a b : Nat} {c : Nat → Int} (ha : kin S a = some (0, 0)) (hb : kin S b = some (0, 0)) (hne : b ≠ a) (hc : ag 7 (rw v b) c) : ∃ f, F_ck_copyFrom a b S v = some (wr v a f) ∧ ag 7 f c := by
  unfold F_ck_copyFrom
  rw [grd_true _ hb, grd_true _ ha]
  simp only [lt_def, si_wr, wr_wr, rw_wr, gi_x, rw_wr_ne hne]
  refine ⟨_, rfl, fun k hk => ?_⟩
  have hk' := hc k hk
  match k with
  | 0 => exact hk'
  | 1 => exact hk'
  | 2 => exact hk'
  | 3 => exact hk'
  | 4 => exact hk'
  | 5 => exact hk'
  | 6 => exact hk'
  | j + 7 => omega
theorem sg_copy {S : shp} {v : vl} {a b : Nat} {t p g : Nat → Int} (ha : sgL S a) (hb : sgW S v b t p g) (hne : a + 3 ≤ b ∨ b + 3 ≤ a) (h8 : g 8 ≤ 8) : ∃ v', F_sg_copyFrom a b S v = some v' ∧ sgW S v' a t p g ∧ fri a 3 v v' := by
  obtain ⟨⟨l1, l2, l3, l4, l5⟩, hg, ht⟩ := hb
  obtain ⟨m1, m2, m3, m4, m5⟩ := id ha
  have n0 : b ≠ a := by omega
  have al : ∀ {x : Nat}, kin S x = some (1, 8) → alen S x = 8 := fun h => alen_of h
  have z0 : (J 0).toNatClampNeg = 0 := by decide
  have z8 : (J 8).toNatClampNeg = 8 := by decide
  have cond : ∀ {x y : Nat} {w : Nat → Int32}, kin S x = some (1, 8) → kin S y = some (1, 8) → ((¬ (J 0) < 0 ∧ ¬ (J 0) < 0 ∧ ¬ (J 8) < 0) ∧ (Int32.toNatClampNeg (J 0)) + (Int32.toNatClampNeg (J 8)) ≤ alen S x ∧ (Int32.toNatClampNeg (J 0)) + (Int32.toNatClampNeg (J 8)) ≤ alen S y ∧ ∀ i, i < (Int32.toNatClampNeg (J 8)) → fits (aty 0) (.int (w ((Int32.toNatClampNeg (J 0)) + i))) = true) := by
    intro x y w hx hy
    refine ⟨⟨by decide, by decide, by decide⟩, ?_, ?_, fun i _ => rfl⟩
    · rw [z0, z8, al hx]; decide
    · rw [z0, z8, al hy]; decide
  unfold F_sg_copyFrom
  rw [grd_true _ l1, grd_true _ m1]
  simp only [lt_def, si_wr, wr_wr, rw_wr, gi_x, rw_wr_ne n0]
  rw [l4]
  simp only [Option.bind_some]
  rw [m4]
  simp only [Option.bind_some]
  rw [grd_true _ l2, grd_true _ m2, grd_true _ (cond l2 m2), l5]
  simp only [Option.bind_some]
  rw [m5]
  simp only [Option.bind_some]
  rw [grd_true _ l3, grd_true _ m3, grd_true _ (cond l3 m3), z0, z8]
  simp only [cpy_wr]
  refine ⟨_, rfl, ⟨ha, ?_, fun i hi => ?_⟩, ?_⟩
  · rw [rw_wr_ne (by omega), rw_wr_ne (by omega), rw_wr]
    intro k hk
    have hk' := hg k hk
    match k with
    | 0 => exact hk'
    | 1 => exact hk'
    | 2 => exact hk'
    | 3 => exact hk'
    | 4 => exact hk'
    | 5 => exact hk'
    | 6 => exact hk'
    | 7 => exact hk'
    | 8 => exact hk'
    | 9 => exact hk'
    | j + 10 => omega
  · obtain ⟨t1, t2⟩ := ht i hi
    constructor
    · rw [rw_wr_ne (by omega), rw_wr]
      show (if i < 8 then rw (wr v a _) (b + 1) i else _) = _
      rw [if_pos (by omega), rw_wr_ne (by omega)]
      exact t1
    · rw [rw_wr]
      show (if i < 8 then rw (wr (wr v a _) (a + 1) _) (b + 2) i else _) = _
      rw [if_pos (by omega), rw_wr_ne (by omega), rw_wr_ne (by omega)]
      exact t2
  · exact fri_tr (fri_tr (fri_wr (by omega)) (fri_wr (by omega))) (fri_wr (by omega))
theorem st_copyLoop {v : vl} {a b N : Nat} {K : Int} (h5 : rw v a 5 = J K) (hK : 0 ≤ K ∧ K ≤ 20) (hab : a + 6 ≤ b ∨ b + 6 ≤ a) : ∀ (n i : Nat) (S : shp), stL S a → stL S b → (∀ j : Nat, i ≤ j → (j : Int) < K → ∃ r, gr S (b + 5) j = some r ∧ kin S r = some (0, 1)) → K - i < n → (i : Int) ≤ K →
    ∃ S', K_st_copyFrom_72 N n S v a b (J i) = some (S', v) ∧ onr (a + 5) S S' ∧ ∀ j : Nat, gr S' (a + 5) j = if i ≤ j ∧ (j : Int) < K then gr S (b + 5) j else gr S (a + 5) j
  | 0, i, S, la, lb, hr, hn, hi => absurd hn (by omega)
  | n + 1, i, S, la, lb, hr, hn, hi => by
    have tK : (J K).toInt = K := J_toInt (by omega) (by omega)
    have ti : (J (i : Int)).toInt = i := J_toInt (by omega) (by omega)
    show ∃ S', Y_st_copyFrom_72 N (K_st_copyFrom_72 N n) S v a b (J i) = _ ∧ _
    unfold Y_st_copyFrom_72
    obtain ⟨a0, -, -, -, -, a8, a5⟩ := id la
    obtain ⟨b0, -, -, -, -, b8, b5⟩ := id lb
    rw [grd_true _ a0, gi_rw, h5]
    by_cases q : (i : Int) < K
    · obtain ⟨r, r1, r2⟩ := hr i (Nat.le_refl _) q
      rw [if_pos (i_lt.mpr (by rw [ti, tK]; exact q)), a8]
      simp only [Option.bind_some]
      rw [grd_true _ b0, b8]
      simp only [Option.bind_some]
      rw [grd_true _ b5, grd_true _ (vin_of b5 ti (by omega)), clampT ti, r1]
      simp only [Option.bind_some]
      rw [grd_true _ a5, grd_true _ (vin_of a5 ti (by omega)), grd_true _ r2]
      simp only [lt_def]
      have ho : onr (a + 5) S (sr S (a + 5) i (some r)) := onr_sr
      have lb' : stL (sr S (a + 5) i (some r)) b := by
        obtain ⟨x0, x6, x1, x7, ⟨x2, x3, x4, x9, x10⟩, x8, x5⟩ := lb
        exact ⟨x0, (ho.2.2 _ (by omega) _).trans x6, x1, (ho.2.2 _ (by omega) _).trans x7, ⟨x2, x3, x4, (ho.2.2 _ (by omega) _).trans x9, (ho.2.2 _ (by omega) _).trans x10⟩, (ho.2.2 _ (by omega) _).trans x8, x5⟩
      obtain ⟨S', q1, q2, q3⟩ := st_copyLoop (N := N) h5 hK hab n (i + 1) (sr S (a + 5) i (some r)) (stL_onr la ho) lb' (fun j h1 h2 => by
        rw [gr_sr, if_neg (by omega)]
        exact hr j (by omega) h2) (by omega) (by omega)
      refine ⟨S', ?_, onr_tr ho q2, fun j => ?_⟩
      · rw [← J_add]
        exact q1
      · rw [q3 j]
        by_cases z : i = j
        · subst z
          rw [if_neg (by omega), if_pos ⟨Nat.le_refl _, q⟩, gr_sr, if_pos ⟨rfl, rfl⟩, r1]
        · by_cases y : i + 1 ≤ j ∧ (j : Int) < K
          · rw [if_pos y, if_pos ⟨by omega, y.2⟩, gr_sr, if_neg (by omega)]
          · rw [if_neg y, if_neg (by omega), gr_sr, if_neg (by omega)]
    · rw [if_neg (fun z => q (by have := i_lt.mp z; rw [ti, tK] at this; exact this))]
      refine ⟨S, rfl, onr_refl _ _, fun j => ?_⟩
      rw [if_neg (by omega)]
theorem st_copyFrom {S : shp} {v : vl} {a b N : Nat} {h c g t p : Nat → Int} {M : Nat → Nat → Int} (hN : 100 ≤ N) (hw : wfS S) (la : stL S a) (hb : stM S v b h c g t p) (hm : msR S v (b + 5) (h 5) M) (hab : a + 6 ≤ b ∨ b + 6 ≤ a) (h8 : g 8 ≤ 8) (h5 : 0 ≤ h 5 ∧ h 5 ≤ 20) :
    ∃ S' v', F_st_copyFrom N a b S v = some (S', v') ∧ stM S' v' a h c g t p ∧ msR S' v' (a + 5) (h 5) M ∧ exi a 6 0 0 S v S' v' := by
  obtain ⟨lb, hh, hcc, hgg⟩ := id hb
  obtain ⟨b0, b6, b1, b7, bl, b8, b5⟩ := id lb
  obtain ⟨a0, a6, a1, a7, al, a8, a5⟩ := id la
  have n0 : b ≠ a := by omega
  unfold F_st_copyFrom
  rw [grd_true _ b0, grd_true _ a0]
  simp only [lt_def, si_wr, wr_wr, rw_wr, gi_x, rw_wr_ne n0]
  rw [a6]
  simp only [Option.bind_some]
  rw [b6]
  simp only [Option.bind_some]
  let f0 := up (up (up (up (up (up (rw v a) 0 (rw v b 0)) 1 (rw v b 1)) 2 (rw v b 2)) 3 (rw v b 3)) 4 (rw v b 4)) 5 (rw v b 5)
  have hf0 : ag 6 f0 h := fun k hk => by
    have hk' := hh k hk
    match k with
    | 0 => exact hk'
    | 1 => exact hk'
    | 2 => exact hk'
    | 3 => exact hk'
    | 4 => exact hk'
    | 5 => exact hk'
    | j + 6 => omega
  obtain ⟨f1, s1, c1⟩ := ck_copy (v := wr v a f0) a1 b1 (show b + 1 ≠ a + 1 by omega) (by rw [rw_wr_ne (by omega)]; exact hcc)
  rw [grd_true _ a1, s1]
  simp only [Option.bind_some]
  rw [a7]
  simp only [Option.bind_some]
  rw [b7]
  simp only [Option.bind_some]
  have W1 : sgW S (wr (wr v a f0) (a + 1) f1) (b + 2) t p g := by
    refine ⟨bl, ?_, fun i hi => ?_⟩
    · rw [rw_wr_ne (by omega), rw_wr_ne (by omega)]; exact hgg.2.1
    · rw [rw_wr_ne (by omega), rw_wr_ne (by omega), rw_wr_ne (by omega), rw_wr_ne (by omega)]; exact hgg.2.2 i hi
  obtain ⟨v2, s2, W2, F2⟩ := sg_copy al W1 (by omega) h8
  rw [grd_true _ al.1, s2]
  simp only [Option.bind_some]
  have Fv : fri a 6 v v2 := fri_tr (fri_tr (fri_wr (by omega)) (fri_wr (by omega))) (fri_mono F2 (by omega) (by omega))
  have e5 : rw v2 a 5 = J (h 5) := by
    rw [F2.2 a (by omega), rw_wr_ne (by omega), rw_wr]
    exact hf0 5 (by decide)
  obtain ⟨S', q1, q2, q3⟩ := st_copyLoop (N := N) e5 h5 hab N 0 S la lb (fun j _ hj => by
    obtain ⟨r, r1, r2, -⟩ := hm j hj
    exact ⟨r, r1, r2⟩) (by omega) (by omega)
  refine ⟨S', v2, q1, ?_, fun j hj => ?_, ?_⟩
  · refine stM_onr ⟨la, ?_, ?_, W2⟩ q2
    · rw [F2.2 a (by omega), rw_wr_ne (by omega), rw_wr]
      exact hf0
    · rw [F2.2 (a + 1) (by omega), rw_wr]
      exact c1
  · obtain ⟨r, r1, r2, r3⟩ := hm j hj
    refine ⟨r, by rw [q3 j, if_pos ⟨Nat.zero_le _, hj⟩]; exact r1, (onr_kin q2).trans r2, ?_⟩
    rw [Fv.2 r (stM_ne la r2)]
    exact r3
  · have x1 : exi a 6 0 0 S v2 S' v2 := onr_exi q2 (by omega)
    exact exi_tr (exi_fri Fv) x1
end SHAPES
