/-! Frames of whole calls; outcomes; what reads alone. -/
section READS
/-- an outcome: a number, or a throw with the law's code -/
def rC (f : Nat → Nat) (o : Nat ⊕ Int) : Nat ⊕ Int32 := match o with
  | .inl c => .inl (f c)
  | .inr x => .inr (J x)
def oVal (o : Nat ⊕ Int) : Int := match o with
  | .inl _ => 0
  | .inr x => x
def oThr (o : Nat ⊕ Int) : Int := match o with
  | .inl c => c
  | .inr _ => 0
/-- the model's code of a throw -/
def th (v : vl) (m : Nat) (x : Int) : vl := wr v m (up (rw v m) 10 (J x))
theorem th_th {v : vl} {m : Nat} {x y : Int} : th (th v m x) m y = th v m y := by
  unfold th
  rw [wr_wr, rw_wr, up_up]
theorem rw_th {v : vl} {m a : Nat} {x : Int} (h : a ≠ m) : rw (th v m x) a = rw v a := rw_wr_ne h
theorem rw_th0 {v : vl} {m k : Nat} {x : Int} (h : k ≠ 10) : rw (th v m x) m k = rw v m k := by
  unfold th
  rw [rw_wr, up_ne h]
theorem si_th {v : vl} {m : Nat} {x : Int} : si v m 10 (J x) = th v m x := si_wr
/-- what a call of the model that leaves its row changes; x: the code -/
def mqt (m : Nat) (v v' : vl) (x : Int) : Prop := v'.2 = v.2 ∧ (∀ a, a ≠ m → a ≠ m + 1 → a ≠ m + 3 → rw v' a = rw v a) ∧ (∀ k, k < 10 ∨ 15 < k → rw v' m k = rw v m k) ∧ (∀ k, k < 199 → rw v' (m + 1) k = rw v (m + 1) k) ∧ rw v' m 10 = J x
theorem mqt_th {m : Nat} {v : vl} {x : Int} : mqt m v (th v m x) x := ⟨rfl, fun a h _ _ => rw_th h, fun k hk => rw_th0 (by omega), fun k _ => by rw [rw_th (by omega)], by unfold th; rw [rw_wr, up_same]⟩
theorem mqt_mq {m : Nat} {v v' : vl} {x : Int} (h : mq m (th v m x) v') : mqt m v v' x := by
  obtain ⟨h1, h2, h3, h4⟩ := h
  refine ⟨h1, fun a a0 a1 a3 => (h2 a a0 a1 a3).trans (rw_th a0), fun k hk => ?_, fun k hk => ?_, ?_⟩
  · rw [h3 k (by omega)]
    exact rw_th0 (by omega)
  · rw [h4 k hk, rw_th (by omega)]
  · rw [h3 10 (by omega)]
    unfold th
    rw [rw_wr, up_same]
theorem gm_fails1 {S : shp} {v : vl} {m : Nat} {x : Int} (hl : mdL S m) : F_gm_fails m (J 1) (J x) S v = some (J 1, th v m x) := by
  unfold F_gm_fails
  rw [if_neg (by decide), grd_true _ hl.1]
  simp only [lt_def, si_th]
  rw [grd_true _ (by decide)]
theorem gm_fails0 {S : shp} {v : vl} {m : Nat} {x : Int32} : F_gm_fails m (J 0) x S v = some (J 0, v) := by
  unfold F_gm_fails
  rw [if_pos rfl, grd_true _ (by decide)]
theorem gm_inRange {S : shp} {v : vl} {z lo hi : Int} (hz : -2147483648 ≤ z ∧ z < 2147483648) (hl : -2147483648 ≤ lo ∧ lo < 2147483648) (hh : -2147483648 ≤ hi ∧ hi < 2147483648) : F_gm_inRange (J z) (J lo) (J hi) S v = some (if lo ≤ z ∧ z ≤ hi then J 1 else J 0) := by
  unfold F_gm_inRange
  by_cases h1 : z < lo
  · rw [if_pos ((J_lt hz hl).mpr h1), if_neg (by omega)]
  · rw [if_neg (fun q => h1 ((J_lt hz hl).mp q))]
    by_cases h2 : hi < z
    · rw [if_pos ((J_lt hh hz).mpr h2), if_neg (by omega)]
    · rw [if_neg (fun q => h2 ((J_lt hh hz).mp q)), if_pos (by omega)]
theorem gc_within {S : shp} {v : vl} {z lo hi : Int} (hz : -2147483648 ≤ z ∧ z < 2147483648) (hl : -2147483648 ≤ lo ∧ lo < 2147483648) (hh : -2147483648 ≤ hi ∧ hi < 2147483648) : F_gc_requireWithin (J z) (J lo) (J hi) S v = some (if lo ≤ z ∧ z ≤ hi then .inr () else .inl 0) := by
  have n1 : ¬ J 1 = J 0 := by decide
  unfold F_gc_requireWithin F_gc_require
  by_cases h1 : z < lo
  · rw [if_pos ((J_lt hz hl).mpr h1), if_pos rfl, if_neg (by omega)]
    rfl
  · rw [if_neg (fun q => h1 ((J_lt hz hl).mp q))]
    by_cases h2 : hi < z
    · rw [if_pos ((J_lt hh hz).mpr h2), if_pos rfl, if_neg (by omega)]
      rfl
    · rw [if_neg (fun q => h2 ((J_lt hh hz).mp q)), if_neg n1, if_pos (by omega)]
      rfl
theorem bx_l {X α : Type} {k : Nat} {thr : Nat → Option α} {f : X → Option α} : bx (some (.inl k)) thr f = thr k := rfl
theorem bx_r {X α : Type} {x : X} {thr : Nat → Option α} {f : X → Option α} : bx (some (.inr x)) thr f = f x := rfl
/-- the model's state -/
def rwM (R : Nat → Int32) (s : sta) : Prop := rowM R s.1 s.2.1 s.2.2.1 s.2.2.2.1 s.2.2.2.2.1 s.2.2.2.2.2
def dR (S : shp) (v : vl) (m : Nat) (now : sta) (sv : Option sta) (ps : List sta) (re ca ch : Int) : Prop := mdL S m ∧ rwM (rw v (m + 1)) now ∧ ((sv = none ∧ rw v m 6 = J 0) ∨ ∃ s, sv = some s ∧ rw v m 6 = J 1 ∧ rwM (rw v (m + 4)) s) ∧ rw v m 5 = J ps.length ∧ (∀ i s, ps[i]? = some s → rwM (fun k => rw v (m + 5) (199 * (ps.length - 1 - i) + k)) s) ∧ rw v m 7 = J re ∧ rw v m 8 = J ca ∧ rw v m 9 = J ch
theorem dR_mqt {S : shp} {v v' : vl} {m : Nat} {x : Int} {now : sta} {sv : Option sta} {ps : List sta} {re ca ch : Int} (h : dR S v m now sv ps re ca ch) (hV : sV now) (hq : mqt m v v' x) : dR S v' m now sv ps re ca ch := by
  obtain ⟨hl, h1, h2, h3, h4, h5, h6, h7⟩ := h
  obtain ⟨-, q1, q2, q3, -⟩ := hq
  have e4 : rw v' (m + 4) = rw v (m + 4) := q1 _ (by omega) (by omega) (by omega)
  have e5 : rw v' (m + 5) = rw v (m + 5) := q1 _ (by omega) (by omega) (by omega)
  refine ⟨hl, rowM_ag h1 (stV_8 hV).2.2 hV.1.2.2.2.2.2 q3, ?_, (q2 5 (by decide)).trans h3, fun i s hs => by rw [e5]; exact h4 i s hs, (q2 7 (by decide)).trans h5, (q2 8 (by decide)).trans h6, (q2 9 (by decide)).trans h7⟩
  rcases h2 with ⟨z1, z2⟩ | ⟨s, z1, z2, z3⟩
  · exact Or.inl ⟨z1, (q2 6 (by decide)).trans z2⟩
  · exact Or.inr ⟨s, z1, (q2 6 (by decide)).trans z2, by rw [e4]; exact z3⟩
variable {S : shp} {v : vl} {a m N q : Nat} {h c g t p : Nat → Int} {M : Nat → Nat → Int} {sv : Option sta} {ps : List sta} {re ca ch : Int}
theorem cR_now (hR : cR S v a (h, c, g, t, p, M) sv ps re ca ch q) : kin S a = some (0, 5) ∧ gr S a 5 = some (a + 11) ∧ kin S (a + 11) = some (0, 4) ∧ gr S (a + 11) 6 = some (a + 11 + 1) ∧ kin S (a + 11 + 1) = some (0, 0) ∧ gr S (a + 11) 7 = some (a + 11 + 2) ∧ kin S (a + 11 + 2) = some (0, 3) ∧ ag 6 (rw v (a + 11)) h ∧ ag 7 (rw v (a + 11 + 1)) c ∧ ag 10 (rw v (a + 11 + 2)) g := by
  obtain ⟨hL, ⟨⟨⟨n1, n2, n3, n4⟩, -⟩, -⟩, -⟩ := hR
  exact ⟨hL.1.1, hL.1.2.2.2.1, n1.1, n1.2.1, n1.2.2.1, n1.2.2.2.1, n1.2.2.2.2.1.1, n2, n3, n4.2.1⟩
theorem cR_V (hR : cR S v a (h, c, g, t, p, M) sv ps re ca ch q) : stV h c g t p M := hR.2.1.2
theorem cR_W (hR : cR S v a (h, c, g, t, p, M) sv ps re ca ch q) : sgW S v (a + 11 + 2) t p g := hR.2.1.1.1.2.2.2
-- numbers of the whole
def cntO (h c g : Nat → Int) (n w : Int) : Nat ⊕ Int := if w = 0 then .inr (h 0) else if w = 1 then .inr (c 5) else if w = 2 then .inr (g 2) else if w = 3 then .inr (g 3) else if w = 4 then .inr (g 8) else if w = 5 then .inr (g 9) else if w = 6 then .inr (h 4) else if w = 7 then .inr (h 5) else if w = 8 then .inr n else .inl 1
theorem gc_count {w : Int} (hR : cR S v a (h, c, g, t, p, M) sv ps re ca ch q) (hw : -2147483648 ≤ w ∧ w < 2147483648) : F_gc_count a (J w) S v = some (rC (fun _ => 0) (cntO h c g ps.length w)) := by
  obtain ⟨k0, g5, n0, r6, n1, r7, n2, hh, hc, hg⟩ := cR_now hR
  obtain ⟨n, p1, p2, p3, p4, -⟩ := hR.2.2.2.1
  have e : ∀ n : Int, (0 ≤ n ∧ n ≤ 8) → (J w = J n ↔ w = n) := fun n hn => J_eq hw (by omega)
  unfold F_gc_count cntO
  simp only [e 0 (by decide), e 1 (by decide), e 2 (by decide), e 3 (by decide), e 4 (by decide), e 5 (by decide), e 6 (by decide), e 7 (by decide), e 8 (by decide), k0, g5, n0, r6, n1, r7, n2, grd_pos, Option.bind_some, gi_x, hh 0 (by decide), hh 4 (by decide), hh 5 (by decide), hc 5 (by decide), hg 2 (by decide), hg 3 (by decide), hg 8 (by decide), hg 9 (by decide), p4]
  by_cases h0 : w = 0
  · rw [if_pos h0, if_pos h0]
    rfl
  · rw [if_neg h0, if_neg h0]
    by_cases h1 : w = 1
    · rw [if_pos h1, if_pos h1]
      rfl
    · rw [if_neg h1, if_neg h1]
      by_cases h2 : w = 2
      · rw [if_pos h2, if_pos h2]
        rfl
      · rw [if_neg h2, if_neg h2]
        by_cases h3 : w = 3
        · rw [if_pos h3, if_pos h3]
          rfl
        · rw [if_neg h3, if_neg h3]
          by_cases h4 : w = 4
          · rw [if_pos h4, if_pos h4]
            rfl
          · rw [if_neg h4, if_neg h4]
            by_cases h5 : w = 5
            · rw [if_pos h5, if_pos h5]
              rfl
            · rw [if_neg h5, if_neg h5]
              by_cases h6 : w = 6
              · rw [if_pos h6, if_pos h6]
                rfl
              · rw [if_neg h6, if_neg h6]
                by_cases h7 : w = 7
                · rw [if_pos h7, if_pos h7]
                  rfl
                · rw [if_neg h7, if_neg h7]
                  by_cases h8 : w = 8
                  · rw [if_pos h8, if_pos h8]
                    rfl
                  · rw [if_neg h8, if_neg h8]
                    rfl
theorem gm_count {w : Int} (hR : dR S v m (h, c, g, t, p, M) sv ps re ca ch) (hw : -2147483648 ≤ w ∧ w < 2147483648) : F_gm_count m (J w) S v = some (J (oVal (cntO h c g ps.length w)), th v m (oThr (cntO h c g ps.length w))) := by
  obtain ⟨hl, h1, h2, h3, -⟩ := hR
  have hr := h1.1
  have e : ∀ n : Int, (0 ≤ n ∧ n ≤ 8) → (J w = J n ↔ w = n) := fun n hn => J_eq hw (by omega)
  have R : ∀ k, k < 23 → rw (th v m 0) (m + 1) k = J (mk (hX h) (h 0) c g k) := fun k hk => by rw [rw_th (by omega)]; exact hr k hk
  unfold F_gm_count
  rw [grd_true _ hl.1]
  simp only [lt_def, si_th, e 0 (by decide), e 1 (by decide), e 2 (by decide), e 3 (by decide), e 4 (by decide), e 5 (by decide), e 6 (by decide), e 7 (by decide), e 8 (by decide), hl.2.1, hl.2.2.1, grd_pos, Option.bind_some, gi_x, R 0 (by decide), R 11 (by decide), R 14 (by decide), R 16 (by decide), R 19 (by decide), R 20 (by decide), R 21 (by decide), R 22 (by decide), rw_th0 (show 5 ≠ 10 by decide), h3, th_th]
  unfold cntO
  by_cases h0 : w = 0
  · simp only [if_pos h0]
    rfl
  · simp only [if_neg h0]
    by_cases h1 : w = 1
    · simp only [if_pos h1]
      rfl
    · simp only [if_neg h1]
      by_cases h2 : w = 2
      · simp only [if_pos h2]
        rfl
      · simp only [if_neg h2]
        by_cases h3 : w = 3
        · simp only [if_pos h3]
          rfl
        · simp only [if_neg h3]
          by_cases h4 : w = 4
          · simp only [if_pos h4]
            rfl
          · simp only [if_neg h4]
            by_cases h5 : w = 5
            · simp only [if_pos h5]
              rfl
            · simp only [if_neg h5]
              by_cases h6 : w = 6
              · simp only [if_pos h6]
                rfl
              · simp only [if_neg h6]
                by_cases h7 : w = 7
                · simp only [if_pos h7]
                  rfl
                · simp only [if_neg h7]
                  by_cases h8 : w = 8
                  · simp only [if_pos h8]
                    rfl
                  · simp only [if_neg h8]
                    rfl
-- settings
def setO (h c g : Nat → Int) (w : Int) : Nat ⊕ Int := if w = 0 then .inr (c 0) else if w = 1 then .inr (c 1) else if w = 2 then .inr (c 2) else if w = 3 then .inr (g 4) else if w = 4 then .inr (h 1) else if w = 5 then .inr (h 2) else if w = 6 then .inr (h 3) else .inl 1
theorem gc_setting {w : Int} (hR : cR S v a (h, c, g, t, p, M) sv ps re ca ch q) (hw : -2147483648 ≤ w ∧ w < 2147483648) : F_gc_setting a (J w) S v = some (rC (fun _ => 0) (setO h c g w)) := by
  obtain ⟨k0, g5, n0, r6, n1, r7, n2, hh, hc, hg⟩ := cR_now hR
  have e : ∀ n : Int, (0 ≤ n ∧ n ≤ 8) → (J w = J n ↔ w = n) := fun n hn => J_eq hw (by omega)
  unfold F_gc_setting setO
  simp only [e 0 (by decide), e 1 (by decide), e 2 (by decide), e 3 (by decide), e 4 (by decide), e 5 (by decide), e 6 (by decide), k0, g5, n0, r6, n1, r7, n2, grd_pos, Option.bind_some, gi_x, hh 1 (by decide), hh 2 (by decide), hh 3 (by decide), hc 0 (by decide), hc 1 (by decide), hc 2 (by decide), hg 4 (by decide)]
  by_cases h0 : w = 0
  · rw [if_pos h0, if_pos h0]
    rfl
  · rw [if_neg h0, if_neg h0]
    by_cases h1 : w = 1
    · rw [if_pos h1, if_pos h1]
      rfl
    · rw [if_neg h1, if_neg h1]
      by_cases h2 : w = 2
      · rw [if_pos h2, if_pos h2]
        rfl
      · rw [if_neg h2, if_neg h2]
        by_cases h3 : w = 3
        · rw [if_pos h3, if_pos h3]
          rfl
        · rw [if_neg h3, if_neg h3]
          by_cases h4 : w = 4
          · rw [if_pos h4, if_pos h4]
            rfl
          · rw [if_neg h4, if_neg h4]
            by_cases h5 : w = 5
            · rw [if_pos h5, if_pos h5]
              rfl
            · rw [if_neg h5, if_neg h5]
              by_cases h6 : w = 6
              · rw [if_pos h6, if_pos h6]
                rfl
              · rw [if_neg h6, if_neg h6]
                rfl
theorem gm_setting {w : Int} (hR : dR S v m (h, c, g, t, p, M) sv ps re ca ch) (hw : -2147483648 ≤ w ∧ w < 2147483648) : F_gm_setting m (J w) S v = some (J (oVal (setO h c g w)), th v m (oThr (setO h c g w))) := by
  obtain ⟨hl, h1, h2, h3, -⟩ := hR
  have hr := h1.1
  have R : ∀ k, k < 23 → rw (th v m 0) (m + 1) k = J (mk (hX h) (h 0) c g k) := fun k hk => by rw [rw_th (by omega)]; exact hr k hk
  unfold F_gm_setting
  rw [grd_true _ hl.1]
  simp only [lt_def, si_th]
  rw [gm_inRange hw (by decide) (by decide)]
  simp only [Option.bind_some]
  unfold K_gm_setting_21
  rw [grd_true _ hl.1, grd_true _ hl.1]
  have n1 : ¬ J 1 = J 0 := by decide
  by_cases z : 0 ≤ w ∧ w ≤ 6
  · have t1 : (J 1 + J w).toInt = (((1 + w).toNat : Nat) : Int) := by rw [← J_add, J_toInt (by omega) (by omega)]; omega
    rw [if_pos z, if_neg n1, gm_fails0]
    simp only [Option.bind_some, if_true]
    rw [grd_true _ hl.1, hl.2.1]
    simp only [Option.bind_some]
    rw [grd_true _ hl.2.2.1, grd_true _ (vin_of hl.2.2.1 t1 (by omega)), clampT t1, gi_rw, R _ (by omega)]
    unfold setO
    have cs : w = 0 ∨ w = 1 ∨ w = 2 ∨ w = 3 ∨ w = 4 ∨ w = 5 ∨ w = 6 := by omega
    rcases cs with q | q | q | q | q | q | q <;> subst q <;> rfl
  · have e : setO h c g w = .inl 1 := by
      unfold setO
      rw [if_neg (by omega), if_neg (by omega), if_neg (by omega), if_neg (by omega), if_neg (by omega), if_neg (by omega), if_neg (by omega)]
    rw [if_neg z, if_pos rfl, gm_fails1 hl, e]
    simp only [Option.bind_some, n1, if_false]
    rw [th_th]
    rfl
-- how things are
/-- the time of the next segment -/
def nsZ (t g : Nat → Int) : Int := if g 9 < g 8 then t (g 9).toNat else -1
def staO (c g t : Nat → Int) (w : Int) : Nat ⊕ Int := if w = 0 then .inr (c 4) else if w = 1 then .inr (c 3) else if w = 2 then .inr (g 0) else if w = 3 then .inr (g 1) else if w = 4 then .inr (g 5) else if w = 5 then .inr (nsZ t g) else .inl 1
theorem sg_next (hW : sgW S v a t p g) (h9 : 0 ≤ g 9 ∧ g 9 ≤ g 8 ∧ g 8 ≤ 8) : F_sg_nextSegment a S v = some (J (nsZ t g)) := by
  obtain ⟨⟨l1, l2, l3, l4, l5⟩, hg, ht⟩ := hW
  have e9 : (((g 9).toNat : Nat) : Int) = g 9 := by omega
  have t9 : (J (g 9)).toInt = (((g 9).toNat : Nat) : Int) := by rw [e9]; exact J_toInt (by omega) (by omega)
  unfold F_sg_nextSegment nsZ
  rw [grd_true _ l1]
  simp only [gi_x, hg 9 (by decide), hg 8 (by decide)]
  rw [if_neg (fun z => by have := i_lt.mp z; rw [t9, tJ] at this; omega)]
  by_cases z : g 9 < g 8
  · rw [if_pos ((J_lt (by omega) (by omega)).mpr z), if_pos z, l4]
    simp only [Option.bind_some]
    rw [grd_true _ l2, grd_true _ (vin_of l2 t9 (by omega)), clampT t9, (ht (g 9).toNat (by omega)).1]
  · rw [if_neg (fun y => z ((J_lt (by omega) (by omega)).mp y)), if_neg z]
theorem gc_state {w : Int} (hR : cR S v a (h, c, g, t, p, M) sv ps re ca ch q) (hw : -2147483648 ≤ w ∧ w < 2147483648) : F_gc_state a (J w) S v = some (rC (fun _ => 0) (staO c g t w)) := by
  obtain ⟨k0, g5, n0, r6, n1, r7, n2, hh, hc, hg⟩ := cR_now hR
  have e : ∀ n : Int, (0 ≤ n ∧ n ≤ 8) → (J w = J n ↔ w = n) := fun n hn => J_eq hw (by omega)
  have hs := sg_next (cR_W hR) (stV_8 (cR_V hR))
  unfold F_gc_state staO
  simp only [e 0 (by decide), e 1 (by decide), e 2 (by decide), e 3 (by decide), e 4 (by decide), e 5 (by decide), k0, g5, n0, r6, n1, r7, n2, grd_pos, Option.bind_some, gi_x, hc 4 (by decide), hc 3 (by decide), hg 0 (by decide), hg 1 (by decide), hg 5 (by decide), hs]
  by_cases h0 : w = 0
  · rw [if_pos h0, if_pos h0]
    rfl
  · rw [if_neg h0, if_neg h0]
    by_cases h1 : w = 1
    · rw [if_pos h1, if_pos h1]
      rfl
    · rw [if_neg h1, if_neg h1]
      by_cases h2 : w = 2
      · rw [if_pos h2, if_pos h2]
        rfl
      · rw [if_neg h2, if_neg h2]
        by_cases h3 : w = 3
        · rw [if_pos h3, if_pos h3]
          rfl
        · rw [if_neg h3, if_neg h3]
          by_cases h4 : w = 4
          · rw [if_pos h4, if_pos h4]
            rfl
          · rw [if_neg h4, if_neg h4]
            by_cases h5 : w = 5
            · rw [if_pos h5, if_pos h5]
              rfl
            · rw [if_neg h5, if_neg h5]
              rfl
theorem rowM_t {R : Nat → Int32} (hR : rowM R h c g t p M) {i : Nat} (hi : (i : Int) < g 8) : R (23 + 2 * i) = J (t i) := (hR.2.1 i hi).1
theorem gm_state {w : Int} (hR : dR S v m (h, c, g, t, p, M) sv ps re ca ch) (hV : stV h c g t p M) (hw : -2147483648 ≤ w ∧ w < 2147483648) : F_gm_state m (J w) S v = some (J (oVal (staO c g t w)), th v m (oThr (staO c g t w))) := by
  obtain ⟨hl, h1, h2, h3, -⟩ := hR
  have hr := h1.1
  have h9 := stV_8 hV
  have e : ∀ n : Int, (0 ≤ n ∧ n ≤ 8) → (J w = J n ↔ w = n) := fun n hn => J_eq hw (by omega)
  have R : ∀ k, k < 23 → rw (th v m 0) (m + 1) k = J (mk (hX h) (h 0) c g k) := fun k hk => by rw [rw_th (by omega)]; exact hr k hk
  have e9 : (((g 9).toNat : Nat) : Int) = g 9 := by omega
  have hs : (if J (mk (hX h) (h 0) c g 20) = J (mk (hX h) (h 0) c g 19) then some (J (-1), th v m 0) else (F_gm_segmentTime m (J (mk (hX h) (h 0) c g 20)) S (th v m 0)).bind fun x26 => some (x26, th v m 0)) = some (J (nsZ t g), th v m 0) := by
    show (if J (g 9) = J (g 8) then some (J (-1), th v m 0) else (F_gm_segmentTime m (J (g 9)) S (th v m 0)).bind fun x26 => some (x26, th v m 0)) = _
    unfold nsZ
    by_cases z : g 9 < g 8
    · rw [if_neg (fun y => by have := (J_eq (by omega) (by omega)).mp y; omega), if_pos z, gm_segTime (i := (g 9).toNat) hl (by rw [e9]; exact J_toInt (by omega) (by omega)) (by omega), rw_th (by omega), rowM_t h1 (show (((g 9).toNat : Nat) : Int) < g 8 by omega)]
      rfl
    · rw [if_pos (by rw [show g 9 = g 8 by omega]), if_neg z]
  unfold F_gm_state
  rw [grd_true _ hl.1]
  simp only [lt_def, si_th, e 0 (by decide), e 1 (by decide), e 2 (by decide), e 3 (by decide), e 4 (by decide), e 5 (by decide), hl.2.1, hl.2.2.1, grd_pos, Option.bind_some, gi_x, R 9 (by decide), R 8 (by decide), R 12 (by decide), R 13 (by decide), R 15 (by decide), R 20 (by decide), R 19 (by decide), th_th, hs]
  unfold staO
  by_cases h0 : w = 0
  · simp only [if_pos h0]
    rfl
  · simp only [if_neg h0]
    by_cases h1 : w = 1
    · simp only [if_pos h1]
      rfl
    · simp only [if_neg h1]
      by_cases h2 : w = 2
      · simp only [if_pos h2]
        rfl
      · simp only [if_neg h2]
        by_cases h3 : w = 3
        · simp only [if_pos h3]
          rfl
        · simp only [if_neg h3]
          by_cases h4 : w = 4
          · simp only [if_pos h4]
            rfl
          · simp only [if_neg h4]
            by_cases h5 : w = 5
            · simp only [if_pos h5]
              rfl
            · simp only [if_neg h5]
              rfl
end READS
