/-! Frames of whole calls; outcomes; what reads alone. -/
section READS
/-- an outcome: a number, or a throw with the law's code -/
def rC (f : Nat → Nat) (o : Nat ⊕ Int) : Nat ⊕ Int32 := match o with
  | .inl c => .inl (f c)
  | .inr x => .inr (J x)
def oVal (o : Nat ⊕ Int) : Int := match o with
  | .inl _ => 0
  | .inr x => x
/-- the model's code of a throw -/
def th (v : vl) (m : Nat) (x : Int) : vl := wr v m (up (rw v m) 10 (J x))
theorem gc_within {S : shp} {v : vl} {z lo hi : Int} (hz : -2147483648 ≤ z ∧ z < 2147483648) (hl : -2147483648 ≤ lo ∧ lo < 2147483648) (hh : -2147483648 ≤ hi ∧ hi < 2147483648) : F_gc_requireWithin (J z) (J lo) (J hi) S v = some (if lo ≤ z ∧ z ≤ hi then .inr () else .inl 0) := by
  have n1 : ¬ J 1 = J 0 := by decide
  unfold F_gc_requireWithin F_gc_require
  by_cases h1 : z < lo
  · rw [if_pos ((J_lt hz hl).mpr h1), if_pos rfl, if_neg (by omega)]
    rfl
  · rw [if_neg (fun q => h1 ((J_lt hz hl).mp q))]
    by_cases h2 : hi < z
    · rw [if_pos ((J_lt hh hz).mpr h2), if_pos rfl, if_neg (by omega)]
      rfl
    · rw [if_neg (fun q => h2 ((J_lt hh hz).mp q)), if_neg n1, if_pos (by omega)]
      rfl
theorem bx_l {X α : Type} {k : Nat} {thr : Nat → Option α} {f : X → Option α} : bx (some (.inl k)) thr f = thr k := rfl
theorem bx_r {X α : Type} {x : X} {thr : Nat → Option α} {f : X → Option α} : bx (some (.inr x)) thr f = f x := rfl
variable {S : shp} {v : vl} {a m N q : Nat} {h c g t p : Nat → Int} {M : Nat → Nat → Int} {sv : Option sta} {ps : List sta} {re ca ch : Int}
theorem cR_now (hR : cR S v a (h, c, g, t, p, M) sv ps re ca ch q) : kin S a = some (0, 5) ∧ gr S a 5 = some (a + 11) ∧ kin S (a + 11) = some (0, 4) ∧ gr S (a + 11) 6 = some (a + 11 + 1) ∧ kin S (a + 11 + 1) = some (0, 0) ∧ gr S (a + 11) 7 = some (a + 11 + 2) ∧ kin S (a + 11 + 2) = some (0, 3) ∧ ag 6 (rw v (a + 11)) h ∧ ag 7 (rw v (a + 11 + 1)) c ∧ ag 10 (rw v (a + 11 + 2)) g := by
  obtain ⟨hL, ⟨⟨⟨n1, n2, n3, n4⟩, -⟩, -⟩, -⟩ := hR
  exact ⟨hL.1.1, hL.1.2.2.2.1, n1.1, n1.2.1, n1.2.2.1, n1.2.2.2.1, n1.2.2.2.2.1.1, n2, n3, n4.2.1⟩
theorem cR_V (hR : cR S v a (h, c, g, t, p, M) sv ps re ca ch q) : stV h c g t p M := hR.2.1.2
theorem cR_W (hR : cR S v a (h, c, g, t, p, M) sv ps re ca ch q) : sgW S v (a + 11 + 2) t p g := hR.2.1.1.1.2.2.2
-- numbers of the whole
def cntO (h c g : Nat → Int) (n w : Int) : Nat ⊕ Int := if w = 0 then .inr (h 0) else if w = 1 then .inr (c 5) else if w = 2 then .inr (g 2) else if w = 3 then .inr (g 3) else if w = 4 then .inr (g 8) else if w = 5 then .inr (g 9) else if w = 6 then .inr (h 4) else if w = 7 then .inr (h 5) else if w = 8 then .inr n else .inl 1
theorem gc_count {w : Int} (hR : cR S v a (h, c, g, t, p, M) sv ps re ca ch q) (hw : -2147483648 ≤ w ∧ w < 2147483648) : F_gc_count a (J w) S v = some (rC (fun _ => 0) (cntO h c g ps.length w)) := by
  obtain ⟨k0, g5, n0, r6, n1, r7, n2, hh, hc, hg⟩ := cR_now hR
  obtain ⟨n, p1, p2, p3, p4, -⟩ := hR.2.2.2.1
  have e : ∀ n : Int, (0 ≤ n ∧ n ≤ 8) → (J w = J n ↔ w = n) := fun n hn => J_eq hw (by omega)
  unfold F_gc_count cntO
  simp only [e 0 (by decide), e 1 (by decide), e 2 (by decide), e 3 (by decide), e 4 (by decide), e 5 (by decide), e 6 (by decide), e 7 (by decide), e 8 (by decide), k0, g5, n0, r6, n1, r7, n2, grd_pos, Option.bind_some, gi_x, hh 0 (by decide), hh 4 (by decide), hh 5 (by decide), hc 5 (by decide), hg 2 (by decide), hg 3 (by decide), hg 8 (by decide), hg 9 (by decide), p4]
  by_cases h0 : w = 0
  · rw [if_pos h0, if_pos h0]
    rfl
  · rw [if_neg h0, if_neg h0]
    by_cases h1 : w = 1
    · rw [if_pos h1, if_pos h1]
      rfl
    · rw [if_neg h1, if_neg h1]
      by_cases h2 : w = 2
      · rw [if_pos h2, if_pos h2]
        rfl
      · rw [if_neg h2, if_neg h2]
        by_cases h3 : w = 3
        · rw [if_pos h3, if_pos h3]
          rfl
        · rw [if_neg h3, if_neg h3]
          by_cases h4 : w = 4
          · rw [if_pos h4, if_pos h4]
            rfl
          · rw [if_neg h4, if_neg h4]
            by_cases h5 : w = 5
            · rw [if_pos h5, if_pos h5]
              rfl
            · rw [if_neg h5, if_neg h5]
              by_cases h6 : w = 6
              · rw [if_pos h6, if_pos h6]
                rfl
              · rw [if_neg h6, if_neg h6]
                by_cases h7 : w = 7
                · rw [if_pos h7, if_pos h7]
                  rfl
                · rw [if_neg h7, if_neg h7]
                  by_cases h8 : w = 8
                  · rw [if_pos h8, if_pos h8]
                    rfl
                  · rw [if_neg h8, if_neg h8]
                    rfl
-- settings
def setO (h c g : Nat → Int) (w : Int) : Nat ⊕ Int := if w = 0 then .inr (c 0) else if w = 1 then .inr (c 1) else if w = 2 then .inr (c 2) else if w = 3 then .inr (g 4) else if w = 4 then .inr (h 1) else if w = 5 then .inr (h 2) else if w = 6 then .inr (h 3) else .inl 1
theorem gc_setting {w : Int} (hR : cR S v a (h, c, g, t, p, M) sv ps re ca ch q) (hw : -2147483648 ≤ w ∧ w < 2147483648) : F_gc_setting a (J w) S v = some (rC (fun _ => 0) (setO h c g w)) := by
  obtain ⟨k0, g5, n0, r6, n1, r7, n2, hh, hc, hg⟩ := cR_now hR
  have e : ∀ n : Int, (0 ≤ n ∧ n ≤ 8) → (J w = J n ↔ w = n) := fun n hn => J_eq hw (by omega)
  unfold F_gc_setting setO
  simp only [e 0 (by decide), e 1 (by decide), e 2 (by decide), e 3 (by decide), e 4 (by decide), e 5 (by decide), e 6 (by decide), k0, g5, n0, r6, n1, r7, n2, grd_pos, Option.bind_some, gi_x, hh 1 (by decide), hh 2 (by decide), hh 3 (by decide), hc 0 (by decide), hc 1 (by decide), hc 2 (by decide), hg 4 (by decide)]
  by_cases h0 : w = 0
  · rw [if_pos h0, if_pos h0]
    rfl
  · rw [if_neg h0, if_neg h0]
    by_cases h1 : w = 1
    · rw [if_pos h1, if_pos h1]
      rfl
    · rw [if_neg h1, if_neg h1]
      by_cases h2 : w = 2
      · rw [if_pos h2, if_pos h2]
        rfl
      · rw [if_neg h2, if_neg h2]
        by_cases h3 : w = 3
        · rw [if_pos h3, if_pos h3]
          rfl
        · rw [if_neg h3, if_neg h3]
          by_cases h4 : w = 4
          · rw [if_pos h4, if_pos h4]
            rfl
          · rw [if_neg h4, if_neg h4]
            by_cases h5 : w = 5
            · rw [if_pos h5, if_pos h5]
              rfl
            · rw [if_neg h5, if_neg h5]
              by_cases h6 : w = 6
              · rw [if_pos h6, if_pos h6]
                rfl
              · rw [if_neg h6, if_neg h6]
                rfl
-- how things are
/-- the time of the next segment -/
def nsZ (t g : Nat → Int) : Int := if g 9 < g 8 then t (g 9).toNat else -1
def staO (c g t : Nat → Int) (w : Int) : Nat ⊕ Int := if w = 0 then .inr (c 4) else if w = 1 then .inr (c 3) else if w = 2 then .inr (g 0) else if w = 3 then .inr (g 1) else if w = 4 then .inr (g 5) else if w = 5 then .inr (nsZ t g) else .inl 1
theorem sg_next (hW : sgW S v a t p g) (h9 : 0 ≤ g 9 ∧ g 9 ≤ g 8 ∧ g 8 ≤ 8) : F_sg_nextSegment a S v = some (J (nsZ t g)) := by
  obtain ⟨⟨l1, l2, l3, l4, l5⟩, hg, ht⟩ := hW
  have e9 : (((g 9).toNat : Nat) : Int) = g 9 := by omega
  have t9 : (J (g 9)).toInt = (((g 9).toNat : Nat) : Int) := by rw [e9]; exact J_toInt (by omega) (by omega)
  unfold F_sg_nextSegment nsZ
  rw [grd_true _ l1]
  simp only [gi_x, hg 9 (by decide), hg 8 (by decide)]
  rw [if_neg (fun z => by have := i_lt.mp z; rw [t9, tJ] at this; omega)]
  by_cases z : g 9 < g 8
  · rw [if_pos ((J_lt (by omega) (by omega)).mpr z), if_pos z, l4]
    simp only [Option.bind_some]
    rw [grd_true _ l2, grd_true _ (vin_of l2 t9 (by omega)), clampT t9, (ht (g 9).toNat (by omega)).1]
  · rw [if_neg (fun y => z ((J_lt (by omega) (by omega)).mp y)), if_neg z]
theorem gc_state {w : Int} (hR : cR S v a (h, c, g, t, p, M) sv ps re ca ch q) (hw : -2147483648 ≤ w ∧ w < 2147483648) : F_gc_state a (J w) S v = some (rC (fun _ => 0) (staO c g t w)) := by
  obtain ⟨k0, g5, n0, r6, n1, r7, n2, hh, hc, hg⟩ := cR_now hR
  have e : ∀ n : Int, (0 ≤ n ∧ n ≤ 8) → (J w = J n ↔ w = n) := fun n hn => J_eq hw (by omega)
  have hs := sg_next (cR_W hR) (stV_8 (cR_V hR))
  unfold F_gc_state staO
  simp only [e 0 (by decide), e 1 (by decide), e 2 (by decide), e 3 (by decide), e 4 (by decide), e 5 (by decide), k0, g5, n0, r6, n1, r7, n2, grd_pos, Option.bind_some, gi_x, hc 4 (by decide), hc 3 (by decide), hg 0 (by decide), hg 1 (by decide), hg 5 (by decide), hs]
  by_cases h0 : w = 0
  · rw [if_pos h0, if_pos h0]
    rfl
  · rw [if_neg h0, if_neg h0]
    by_cases h1 : w = 1
    · rw [if_pos h1, if_pos h1]
      rfl
    · rw [if_neg h1, if_neg h1]
      by_cases h2 : w = 2
      · rw [if_pos h2, if_pos h2]
        rfl
      · rw [if_neg h2, if_neg h2]
        by_cases h3 : w = 3
        · rw [if_pos h3, if_pos h3]
          rfl
        · rw [if_neg h3, if_neg h3]
          by_cases h4 : w = 4
          · rw [if_pos h4, if_pos h4]
            rfl
          · rw [if_neg h4, if_neg h4]
            by_cases h5 : w = 5
            · rw [if_pos h5, if_pos h5]
              rfl
            · rw [if_neg h5, if_neg h5]
              rfl
end READS
