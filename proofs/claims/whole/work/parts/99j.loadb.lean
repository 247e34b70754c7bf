/-! The text that is read: the call on both sides. -/
section LOADB
variable {S S' : shp} {v w v' : vl} {a b m N n q : Nat} {B : Nat → Int} {z : Nat → Int} {R0 R Q : Nat → Int32} {ln : Nat → Nat} {W : Nat → Nat → Int} {s now : sta} {sv : Option sta} {ps : List sta} {re ca ch : Int}
theorem sg_clear (hl : sgL S b) : ∃ f, F_sg_clear b S v = some (wr v b f) ∧ ag 10 f g00 := by
  refine ⟨up (up (up (up (up (up (up (up (up (up (rw v b) 0 (J 0)) 1 (J (-1))) 2 (J 0)) 3 (J 0)) 4 (J 1)) 5 (J 0)) 6 (J 0)) 7 (J 0)) 8 (J 0)) 9 (J 0), ?_, fun k hk => ?_⟩
  · unfold F_sg_clear
    rw [grd_true _ hl.1]
    simp only [lt_def, si_wr, rw_wr, wr_wr]
    unfold F_sg_setUpPrescaler
    rw [grd_true _ hl.1]
    simp only [lt_def, si_wr, gi_x, rw_wr, wr_wr, Option.bind_some]
    rfl
  · match k, hk with
    | 0, _ => rfl
    | 1, _ => rfl
    | 2, _ => rfl
    | 3, _ => rfl
    | 4, _ => rfl
    | 5, _ => rfl
    | 6, _ => rfl
    | 7, _ => rfl
    | 8, _ => rfl
    | 9, _ => rfl
    | k + 10, h => exact absurd h (by omega)
theorem st_clear (hl : stL S b) : ∃ v', F_st_clear b S v = some v' ∧ stD S v' b (s00 10 0 0) ∧ fri b 3 v v' := by
  obtain ⟨R1, e1⟩ : ∃ R1, R1 = up (up (up (up (up (up (rw v b) 0 (J 0)) 1 (J 10)) 2 (J 1)) 3 (J 0)) 4 (J 0)) 5 (J 0) := ⟨_, rfl⟩
  obtain ⟨f, f1, f2⟩ := ck_startS (v := wr v b R1) (p1 := 10) (p2 := 0) (p3 := 0) hl.2.2.1
  obtain ⟨g, g1, g2⟩ := sg_clear (v := wr (wr v b R1) (b + 1) f) hl.2.2.2.2.1
  refine ⟨_, ?_, ⟨hl, ?_, ?_, hl.2.2.2.2.1, ?_, fun i hi => ?_⟩, fri_tr (fri_tr (fri_wr (a := b) (f := R1) (by omega)) (fri_wr (a := b + 1) (f := f) (by omega))) (fri_wr (a := b + 2) (f := g) (by omega))⟩
  · unfold F_st_clear
    rw [grd_true _ hl.1]
    simp only [lt_def, si_wr, rw_wr, wr_wr]
    rw [← e1, hl.2.1]
    simp only [Option.bind_some]
    rw [grd_true _ hl.2.2.1, f1]
    simp only [Option.bind_some]
    rw [hl.2.2.2.1]
    simp only [Option.bind_some]
    rw [grd_true _ hl.2.2.2.2.1.1, g1]
    rfl
  · rw [rw_wr_ne (by omega), rw_wr_ne (by omega), rw_wr, e1]
    intro k hk
    match k, hk with
    | 0, _ => rfl
    | 1, _ => rfl
    | 2, _ => rfl
    | 3, _ => rfl
    | 4, _ => rfl
    | 5, _ => rfl
    | k + 6, h => exact absurd h (by omega)
  · rw [rw_wr_ne (by omega), rw_wr]; exact f2
  · rw [rw_wr]; exact g2
  · have hi' : (i : Int) < 0 := hi
    omega
-- the model's fresh row
def bgE (R : Nat → Int32) : Nat → Int32 := up (up (up (up R 4 (J 1)) 5 (J 10)) 6 (J 1)) 13 (J (-1))
theorem gm_beginsL (hl : mdL S m) : ∀ (k i F : Nat) (R : Nat → Int32), i + k = 199 → k < F → K_gm_begins_2 N F S (wr w (m + 1) R) m (J (i : Int)) = some (wr w (m + 1) (bgE (fun j => if i ≤ j ∧ j < 199 then J 0 else R j)))
  | _, _, 0, _, _, h => absurd h (Nat.not_lt_zero _)
  | 0, i, F + 1, R, hk, _ => by
    have e : (fun j => if i ≤ j ∧ j < 199 then J 0 else R j) = R := by
      funext j
      rw [if_neg (by omega)]
    show Y_gm_begins_2 N (K_gm_begins_2 N F S) S (wr w (m + 1) R) m (J (i : Int)) = _
    unfold Y_gm_begins_2
    rw [if_neg (fun y => by have := (J_lt (by omega) (by decide)).mp y; omega), grd_true _ hl.1, hl.2.1, e]
    simp only [Option.bind_some]
    rw [grd_true _ hl.2.2.1]
    simp only [lt_def, si_wr, rw_wr, wr_wr]
    rfl
  | k + 1, i, F + 1, R, hk, hF => by
    have ti : (J (i : Int)).toInt = (i : Int) := J_toInt (by omega) (by omega)
    have e : (fun j => if i + 1 ≤ j ∧ j < 199 then J 0 else up R i (J 0) j) = fun j => if i ≤ j ∧ j < 199 then J 0 else R j := by
      funext j
      by_cases y : j = i
      · rw [y, if_neg (by omega), up_same, if_pos (by omega)]
      · rw [up_ne y]
        by_cases y2 : i + 1 ≤ j ∧ j < 199
        · rw [if_pos y2, if_pos (by omega)]
        · rw [if_neg y2, if_neg (by omega)]
    show Y_gm_begins_2 N (K_gm_begins_2 N F S) S (wr w (m + 1) R) m (J (i : Int)) = _
    unfold Y_gm_begins_2
    rw [if_pos ((J_lt (by omega) (by decide)).mpr (by omega)), grd_true _ hl.1, hl.2.1]
    simp only [Option.bind_some]
    rw [grd_true _ hl.2.2.1, grd_true _ (vin_of hl.2.2.1 ti (by omega)), clampT ti]
    simp only [lt_def, si_wr, rw_wr, wr_wr]
    rw [J_s, gm_beginsL hl k (i + 1) F (up R i (J 0)) (by omega) (by omega), e]
theorem gm_begins (hN : 1000 ≤ N) (hl : mdL S m) : ∃ R, F_gm_begins N m S w = some (wr w (m + 1) R) ∧ rwM R (s00 0 0 0) := by
  have e := gm_beginsL (N := N) (w := w) hl 199 0 N (rw w (m + 1)) (by decide) (by omega)
  rw [wr_self] at e
  refine ⟨_, e, fun k hk => ?_, fun i hi => ?_, fun i hi => ?_⟩
  · match k, hk with
    | 0, _ => rfl
    | 1, _ => rfl
    | 2, _ => rfl
    | 3, _ => rfl
    | 4, _ => rfl
    | 5, _ => rfl
    | 6, _ => rfl
    | 7, _ => rfl
    | 8, _ => rfl
    | 9, _ => rfl
    | 10, _ => rfl
    | 11, _ => rfl
    | 12, _ => rfl
    | 13, _ => rfl
    | 14, _ => rfl
    | 15, _ => rfl
    | 16, _ => rfl
    | 17, _ => rfl
    | 18, _ => rfl
    | 19, _ => rfl
    | 20, _ => rfl
    | 21, _ => rfl
    | 22, _ => rfl
    | k + 23, h => exact absurd h (by omega)
  · have hi' : (i : Int) < 0 := hi
    omega
  · have hi' : (i : Int) < 0 := hi
    omega
-- frames
/-- all but the object's own rows stays -/
def exL (a k l : Nat) (S : shp) (v : vl) (S' : shp) (v' : vl) : Prop := (∀ x, x < nxt S → v'.2 x = v.2 x) ∧ (∀ x, (x < a ∨ a + 84 ≤ x) → x < nxt S → rw v' x = rw v x ∧ ∀ j, gr S' x j = gr S x j) ∧ (∀ x, x < nxt S → kin S' x = kin S x) ∧ kad S' = kad S ∧ bas S' = bas S ∧ (cn S ≤ cn S' ∧ cn S' ≤ cn S + k) ∧ (cz S ≤ cz S' ∧ cz S' ≤ cz S + l)
theorem exL_exg {k l : Nat} (h : exg a k l S v S' v') : exL a k l S v S' v' := ⟨h.1, fun x hx hn => h.2.1 x (by omega) (by omega) hn, h.2.2⟩
theorem exL_exi {k l : Nat} (h : exi b 6 k l S v S' v') (hb : a ≤ b ∧ b + 6 ≤ a + 84) : exL a k l S v S' v' := ⟨h.1, fun x hx hn => h.2.1 x (by omega) hn, h.2.2.1, h.2.2.2.1, h.2.2.2.2.1, h.2.2.2.2.2.1, h.2.2.2.2.2.2.1⟩
theorem exL_fri {k : Nat} (h : fri b k v v') (hb : a ≤ b ∧ b + k ≤ a + 84) : exL a 0 0 S v S v' := ⟨fun x _ => by rw [h.1], fun x hx _ => ⟨h.2 x (by omega), fun _ => rfl⟩, fun _ _ => rfl, rfl, rfl, ⟨Nat.le_refl _, Nat.le_refl _⟩, ⟨Nat.le_refl _, Nat.le_refl _⟩⟩
/-- the same, and the builder's rows stay too -/
def exN (a k l : Nat) (S : shp) (v : vl) (S' : shp) (v' : vl) : Prop := (∀ x, x < nxt S → v'.2 x = v.2 x) ∧ (∀ x, (x < a ∨ x = a + 9 ∨ x = a + 10 ∨ a + 84 ≤ x) → x < nxt S → rw v' x = rw v x ∧ ∀ j, gr S' x j = gr S x j) ∧ (∀ x, x < nxt S → kin S' x = kin S x) ∧ kad S' = kad S ∧ bas S' = bas S ∧ (cn S ≤ cn S' ∧ cn S' ≤ cn S + k) ∧ (cz S ≤ cz S' ∧ cz S' ≤ cz S + l)
theorem exN_L {k l : Nat} (h : exN a k l S v S' v') : exL a k l S v S' v' := ⟨h.1, fun x hx hn => h.2.1 x (by omega) hn, h.2.2⟩
theorem exN_exg {k l : Nat} (h : exg a k l S v S' v') : exN a k l S v S' v' := ⟨h.1, fun x hx hn => h.2.1 x (by omega) (by omega) hn, h.2.2⟩
theorem exN_exi {k l : Nat} (h : exi b 6 k l S v S' v') (hb : a + 11 ≤ b ∧ b + 6 ≤ a + 84) : exN a k l S v S' v' := ⟨h.1, fun x hx hn => h.2.1 x (by omega) hn, h.2.2.1, h.2.2.2.1, h.2.2.2.2.1, h.2.2.2.2.2.1, h.2.2.2.2.2.2.1⟩
theorem exN_fri {k : Nat} (h : fri b k v v') (hb : a ≤ b ∧ b + k ≤ a + 9) : exN a 0 0 S v S v' := ⟨fun x _ => by rw [h.1], fun x hx _ => ⟨h.2 x (by omega), fun _ => rfl⟩, fun _ _ => rfl, rfl, rfl, ⟨Nat.le_refl _, Nat.le_refl _⟩, ⟨Nat.le_refl _, Nat.le_refl _⟩⟩
theorem exN_tr {k l k' l' : Nat} {S1 : shp} {v1 : vl} (h1 : exN a k l S v S1 v1) (h2 : exN a k' l' S1 v1 S' v') : exN a (k + k') (l + l') S v S' v' := by
  obtain ⟨a1, a2, a3, a4, a5, a6, a7⟩ := h1
  obtain ⟨b1, b2, b3, b4, b5, b6, b7⟩ := h2
  have hn : nxt S ≤ nxt S1 := by unfold nxt; rw [a5]; omega
  refine ⟨fun x hx => (b1 x (by omega)).trans (a1 x hx), fun x hx hxn => ?_, fun x hx => (b3 x (by omega)).trans (a3 x hx), b4.trans a4, b5.trans a5, by omega, by omega⟩
  obtain ⟨c1, c2⟩ := a2 x hx hxn
  obtain ⟨d1, d2⟩ := b2 x hx (by omega)
  exact ⟨d1.trans c1, fun j => (d2 j).trans (c2 j)⟩
theorem exL_tr {k l k' l' : Nat} {S1 : shp} {v1 : vl} (h1 : exL a k l S v S1 v1) (h2 : exL a k' l' S1 v1 S' v') : exL a (k + k') (l + l') S v S' v' := by
  obtain ⟨a1, a2, a3, a4, a5, a6, a7⟩ := h1
  obtain ⟨b1, b2, b3, b4, b5, b6, b7⟩ := h2
  have hn : nxt S ≤ nxt S1 := by unfold nxt; rw [a5]; omega
  refine ⟨fun x hx => (b1 x (by omega)).trans (a1 x hx), fun x hx hxn => ?_, fun x hx => (b3 x (by omega)).trans (a3 x hx), b4.trans a4, b5.trans a5, by omega, by omega⟩
  obtain ⟨c1, c2⟩ := a2 x hx hxn
  obtain ⟨d1, d2⟩ := b2 x hx (by omega)
  exact ⟨d1.trans c1, fun j => (d2 j).trans (c2 j)⟩
theorem exL_mono {k l k' l' : Nat} (h : exL a k l S v S' v') (hk : k ≤ k') (hl : l ≤ l') : exL a k' l' S v S' v' := by
  obtain ⟨a1, a2, a3, a4, a5, a6, a7⟩ := h
  exact ⟨a1, a2, a3, a4, a5, by omega, by omega⟩
theorem mdL_exL {k l : Nat} (hm : mdL S m) (hw : wfS S) (ham : a + 84 ≤ m) (h : exL a k l S v S' v') : mdL S' m := by
  obtain ⟨-, h2, h3, -⟩ := h
  have kk : ∀ {x : Nat} {d : kd}, kin S x = some d → kin S' x = some d := fun hx => by rw [h3 _ (kin_lt hw hx)]; exact hx
  obtain ⟨m0, g0, m1, ⟨g1, m2⟩, ⟨g2, m3⟩, ⟨g3, m4⟩, ⟨g4, m5⟩, ⟨g16, m6⟩, ⟨g28, m7⟩⟩ := hm
  have gg : ∀ j, gr S' m j = gr S m j := fun j => (h2 m (by omega) (kin_lt hw m0)).2 j
  exact ⟨kk m0, by rw [gg]; exact g0, kk m1, ⟨by rw [gg]; exact g1, kk m2⟩, ⟨by rw [gg]; exact g2, kk m3⟩, ⟨by rw [gg]; exact g3, kk m4⟩, ⟨by rw [gg]; exact g4, kk m5⟩, ⟨by rw [gg]; exact g16, kk m6⟩, ⟨by rw [gg]; exact g28, kk m7⟩⟩
theorem mrow_exL {k l x : Nat} (hm : mdL S m) (hw : wfS S) (ham : a + 84 ≤ m) (h : exL a k l S v S' v') (hx : m ≤ x ∧ x < m + 8) : rw v' x = rw v x := by
  obtain ⟨m0, g0, m1, ⟨g1, m2⟩, ⟨g2, m3⟩, ⟨g3, m4⟩, ⟨g4, m5⟩, ⟨g16, m6⟩, ⟨g28, m7⟩⟩ := hm
  have : x < nxt S := by
    have q7 := kin_lt hw m7
    omega
  exact (h.2.1 x (by omega) this).1
theorem dR_exL {k l : Nat} (hR : dR S v m now sv ps re ca ch) (hw : wfS S) (ham : a + 84 ≤ m) (h : exL a k l S v S' v') : dR S' v' m now sv ps re ca ch := by
  have hl := hR.1
  have rr := fun x (hx : m ≤ x ∧ x < m + 8) => mrow_exL hl hw ham h hx
  obtain ⟨-, h1, hsv, h5, h6, h7, h8, h9⟩ := hR
  refine ⟨mdL_exL hl hw ham h, by rw [rr _ (by omega)]; exact h1, ?_, by rw [rr _ (by omega)]; exact h5, fun i s his => by rw [rr _ (by omega)]; exact h6 i s his, by rw [rr _ (by omega)]; exact h7, by rw [rr _ (by omega)]; exact h8, by rw [rr _ (by omega)]; exact h9⟩
  rcases hsv with ⟨z1, z2⟩ | ⟨s, z1, z2, z3⟩
  · exact Or.inl ⟨z1, by rw [rr _ (by omega)]; exact z2⟩
  · exact Or.inr ⟨s, z1, by rw [rr _ (by omega)]; exact z2, by rw [rr _ (by omega)]; exact z3⟩
theorem tPs_exL {k l : Nat} (hT : tPs S v a) (hw : wfS S) (he : exL a k l S v S' v') : tPs S' v' a := by
  obtain ⟨t1, t2, t3⟩ := hT
  obtain ⟨-, x2, x3, x4, -⟩ := he
  have hn := kin_lt hw t1
  refine ⟨by rw [x4, x3 _ hn]; exact t1, by rw [x4]; exact t2, fun i hi => ?_⟩
  rw [x4, (x2 _ (by omega) hn).1]
  exact t3 i hi
theorem wdS_exL {k l : Nat} (hW : wdS S v a ln W) (hw : wfS S) (he : exL a k l S v S' v') : wdS S' v' a ln W := by
  intro j h10 h16
  obtain ⟨h1, h2, h3, h4, r, g1, g2, g3, g4⟩ := hW j h10 h16
  obtain ⟨-, x2, x3, x4, -⟩ := he
  have n1 := kin_lt hw h1
  have n2 := kin_lt hw g3
  obtain ⟨y1, y2⟩ := x2 _ (Or.inl h2) n1
  obtain ⟨u1, u2⟩ := x2 _ (Or.inl g2) n2
  refine ⟨by rw [x4, x3 _ n1]; exact h1, by rw [x4]; exact h2, by rw [x4, y1]; exact h3, h4, r, by rw [x4, y2]; exact g1, g2, by rw [x3 _ n2]; exact g3, fun k hk => ?_⟩
  rw [u1]
  exact g4 k hk
-- the object, where the reader's rows move
theorem stA_frk {k x : Nat} (hA : stA S v x s) (hf : fri b k v v') (hx : x + 6 ≤ b ∨ b + k ≤ x) (hk : ∀ y, b ≤ y → y < b + k → kin S y ≠ some (0, 1)) : stA S v' x s := by
  obtain ⟨⟨l, hh, hc, ⟨l2, hg, ht⟩⟩, hm⟩ := hA
  refine ⟨⟨l, by rw [hf.2 _ (by omega)]; exact hh, by rw [hf.2 _ (by omega)]; exact hc, l2, by rw [hf.2 _ (by omega)]; exact hg, fun i hi => by rw [hf.2 _ (by omega), hf.2 _ (by omega)]; exact ht i hi⟩, fun i hi => ?_⟩
  obtain ⟨r, r1, r2, r3⟩ := hm i hi
  refine ⟨r, r1, r2, ?_⟩
  rw [hf.2 r]
  · exact r3
  · by_cases y : r < b ∨ b + k ≤ r
    · exact y
    · exact absurd r2 (hk r (by omega) (by omega))
theorem cR_in (hR : cR S v a now sv ps re ca ch q) (hf : fri (a + 1) 8 v v') : cR S v' a now sv ps re ca ch q := by
  obtain ⟨hL, ⟨n1, n2⟩, hsv, ⟨n, p1, p2, p3, p4, p5, p6⟩, r2, r3, r4⟩ := hR
  obtain ⟨-, ⟨k1, -, k2, -⟩, -, -, -, l3, -⟩ := id hL
  obtain ⟨j0, -, j1, -, ⟨j2, j3, j4, -⟩, -, j5⟩ := l3
  have hk : ∀ y, a + 1 ≤ y → y < a + 1 + 8 → kin S y ≠ some (0, 1) := by
    intro y y1 y2 e
    have : y = a + 1 ∨ y = a + 2 ∨ y = a + 3 ∨ y = a + 3 + 1 ∨ y = a + 3 + 2 ∨ y = a + 3 + 2 + 1 ∨ y = a + 3 + 2 + 2 ∨ y = a + 3 + 5 := by omega
    rcases this with h | h | h | h | h | h | h | h <;> rw [h] at e
    · rw [k1] at e; cases e
    · rw [k2] at e; cases e
    · rw [j0] at e; cases e
    · rw [j1] at e; cases e
    · rw [j2] at e; cases e
    · rw [j3] at e; cases e
    · rw [j4] at e; cases e
    · rw [j5] at e; cases e
  have e0 : rw v' a = rw v a := hf.2 _ (by omega)
  refine ⟨hL, ⟨stA_frk n1 hf (by omega) hk, n2⟩, ?_, ⟨n, by rw [e0]; exact p1, p2, p3, by rw [e0]; exact p4, p5, fun i s his => ?_⟩, by rw [e0]; exact r2, by rw [e0]; exact r3, by rw [e0]; exact r4⟩
  · rcases hsv with ⟨z1, z2⟩ | ⟨s, z1, z2, z3, z4⟩
    · exact Or.inl ⟨z1, by rw [e0]; exact z2⟩
    · exact Or.inr ⟨s, z1, by rw [e0]; exact z2, stA_frk z3 hf (by omega) hk, z4⟩
  · obtain ⟨y1, y2⟩ := p6 i s his
    exact ⟨y1, stA_frk y2 hf (by omega) hk⟩
/-- model rows that moved leave the object's -/
theorem cR_hi {k : Nat} (hR : cR S v a now sv ps re ca ch q) (hf : fri b k v v') (hb : a + 84 ≤ b) (hk : ∀ y, b ≤ y → y < b + k → kin S y ≠ some (0, 1)) : cR S v' a now sv ps re ca ch q := by
  obtain ⟨hL, ⟨n1, n2⟩, hsv, ⟨n, p1, p2, p3, p4, p5, p6⟩, r2, r3, r4⟩ := hR
  have e0 : rw v' a = rw v a := hf.2 _ (by omega)
  refine ⟨hL, ⟨stA_frk n1 hf (by omega) hk, n2⟩, ?_, ⟨n, by rw [e0]; exact p1, p2, p3, by rw [e0]; exact p4, p5, fun i s his => ?_⟩, by rw [e0]; exact r2, by rw [e0]; exact r3, by rw [e0]; exact r4⟩
  · rcases hsv with ⟨z1, z2⟩ | ⟨s, z1, z2, z3, z4⟩
    · exact Or.inl ⟨z1, by rw [e0]; exact z2⟩
    · exact Or.inr ⟨s, z1, by rw [e0]; exact z2, stA_frk z3 hf (by omega) hk, z4⟩
  · obtain ⟨y1, y2⟩ := p6 i s his
    have : (n - 1 - i) % 8 < 8 := Nat.mod_lt _ (by decide)
    exact ⟨y1, stA_frk y2 hf (by omega) hk⟩
theorem mk_kin (hl : mdL S m) : ∀ y, m ≤ y → y < m + 8 → kin S y ≠ some (0, 1) := by
  obtain ⟨m0, g0, m1, ⟨g1, m2⟩, ⟨g2, m3⟩, ⟨g3, m4⟩, ⟨g4, m5⟩, ⟨g16, m6⟩, ⟨g28, m7⟩⟩ := hl
  intro y y1 y2 e
  have : y = m ∨ y = m + 1 ∨ y = m + 2 ∨ y = m + 3 ∨ y = m + 4 ∨ y = m + 5 ∨ y = m + 6 ∨ y = m + 7 := by omega
  rcases this with h | h | h | h | h | h | h | h <;> rw [h] at e
  · rw [m0] at e; cases e
  · rw [m1] at e; cases e
  · rw [m2] at e; cases e
  · rw [m3] at e; cases e
  · rw [m4] at e; cases e
  · rw [m5] at e; cases e
  · rw [m6] at e; cases e
  · rw [m7] at e; cases e
end LOADB
