/-! The text that is read: the call on both sides. -/
section LOADB
variable {S S' : shp} {v w v' : vl} {a b m N n q : Nat} {B : Nat → Int} {z : Nat → Int} {R0 R Q : Nat → Int32} {ln : Nat → Nat} {W : Nat → Nat → Int} {s now : sta} {sv : Option sta} {ps : List sta} {re ca ch : Int}
theorem sg_clear (hl : sgL S b) : ∃ f, F_sg_clear b S v = some (wr v b f) ∧ ag 10 f g00 := by
  refine ⟨up (up (up (up (up (up (up (up (up (up (rw v b) 0 (J 0)) 1 (J (-1))) 2 (J 0)) 3 (J 0)) 4 (J 1)) 5 (J 0)) 6 (J 0)) 7 (J 0)) 8 (J 0)) 9 (J 0), ?_, fun k hk => ?_⟩
  · unfold F_sg_clear
    rw [grd_true _ hl.1]
    simp only [lt_def, si_wr, rw_wr, wr_wr]
    unfold F_sg_setUpPrescaler
    rw [grd_true _ hl.1]
    simp only [lt_def, si_wr, gi_x, rw_wr, wr_wr, Option.bind_some]
    rfl
  · match k, hk with
    | 0, _ => rfl
    | 1, _ => rfl
    | 2, _ => rfl
    | 3, _ => rfl
    | 4, _ => rfl
    | 5, _ => rfl
    | 6, _ => rfl
    | 7, _ => rfl
    | 8, _ => rfl
    | 9, _ => rfl
    | k + 10, h => exact absurd h (by omega)
theorem st_clear (hl : stL S b) : ∃ v', F_st_clear b S v = some v' ∧ stD S v' b (s00 10 0 0) ∧ fri b 3 v v' := by
  obtain ⟨R1, e1⟩ : ∃ R1, R1 = up (up (up (up (up (up (rw v b) 0 (J 0)) 1 (J 10)) 2 (J 1)) 3 (J 0)) 4 (J 0)) 5 (J 0) := ⟨_, rfl⟩
  obtain ⟨f, f1, f2⟩ := ck_startS (v := wr v b R1) (p1 := 10) (p2 := 0) (p3 := 0) hl.2.2.1
  obtain ⟨g, g1, g2⟩ := sg_clear (v := wr (wr v b R1) (b + 1) f) hl.2.2.2.2.1
  refine ⟨_, ?_, ⟨hl, ?_, ?_, hl.2.2.2.2.1, ?_, fun i hi => ?_⟩, fri_tr (fri_tr (fri_wr (a := b) (f := R1) (by omega)) (fri_wr (a := b + 1) (f := f) (by omega))) (fri_wr (a := b + 2) (f := g) (by omega))⟩
  · unfold F_st_clear
    rw [grd_true _ hl.1]
    simp only [lt_def, si_wr, rw_wr, wr_wr]
    rw [← e1, hl.2.1]
    simp only [Option.bind_some]
    rw [grd_true _ hl.2.2.1, f1]
    simp only [Option.bind_some]
    rw [hl.2.2.2.1]
    simp only [Option.bind_some]
    rw [grd_true _ hl.2.2.2.2.1.1, g1]
    rfl
  · rw [rw_wr_ne (by omega), rw_wr_ne (by omega), rw_wr, e1]
    intro k hk
    match k, hk with
    | 0, _ => rfl
    | 1, _ => rfl
    | 2, _ => rfl
    | 3, _ => rfl
    | 4, _ => rfl
    | 5, _ => rfl
    | k + 6, h => exact absurd h (by omega)
  · rw [rw_wr_ne (by omega), rw_wr]; exact f2
  · rw [rw_wr]; exact g2
  · have hi' : (i : Int) < 0 := hi
    omega
-- the model's fresh row
-- frames
/-- all but the object's own rows stays -/
def exL (a k l : Nat) (S : shp) (v : vl) (S' : shp) (v' : vl) : Prop := (∀ x, x < nxt S → v'.2 x = v.2 x) ∧ (∀ x, (x < a ∨ a + 84 ≤ x) → x < nxt S → rw v' x = rw v x ∧ ∀ j, gr S' x j = gr S x j) ∧ (∀ x, x < nxt S → kin S' x = kin S x) ∧ kad S' = kad S ∧ bas S' = bas S ∧ (cn S ≤ cn S' ∧ cn S' ≤ cn S + k) ∧ (cz S ≤ cz S' ∧ cz S' ≤ cz S + l)
/-- the same, and the builder's rows stay too -/
def exN (a k l : Nat) (S : shp) (v : vl) (S' : shp) (v' : vl) : Prop := (∀ x, x < nxt S → v'.2 x = v.2 x) ∧ (∀ x, (x < a ∨ x = a + 9 ∨ x = a + 10 ∨ a + 84 ≤ x) → x < nxt S → rw v' x = rw v x ∧ ∀ j, gr S' x j = gr S x j) ∧ (∀ x, x < nxt S → kin S' x = kin S x) ∧ kad S' = kad S ∧ bas S' = bas S ∧ (cn S ≤ cn S' ∧ cn S' ≤ cn S + k) ∧ (cz S ≤ cz S' ∧ cz S' ≤ cz S + l)
theorem tPs_exL {k l : Nat} (hT : tPs S v a) (hw : wfS S) (he : exL a k l S v S' v') : tPs S' v' a := by
  obtain ⟨t1, t2, t3⟩ := hT
  obtain ⟨-, x2, x3, x4, -⟩ := he
  have hn := kin_lt hw t1
  refine ⟨by rw [x4, x3 _ hn]; exact t1, by rw [x4]; exact t2, fun i hi => ?_⟩
  rw [x4, (x2 _ (by omega) hn).1]
  exact t3 i hi
theorem wdS_exL {k l : Nat} (hW : wdS S v a ln W) (hw : wfS S) (he : exL a k l S v S' v') : wdS S' v' a ln W := by
  intro j h10 h16
  obtain ⟨h1, h2, h3, h4, r, g1, g2, g3, g4⟩ := hW j h10 h16
  obtain ⟨-, x2, x3, x4, -⟩ := he
  have n1 := kin_lt hw h1
  have n2 := kin_lt hw g3
  obtain ⟨y1, y2⟩ := x2 _ (Or.inl h2) n1
  obtain ⟨u1, u2⟩ := x2 _ (Or.inl g2) n2
  refine ⟨by rw [x4, x3 _ n1]; exact h1, by rw [x4]; exact h2, by rw [x4, y1]; exact h3, h4, r, by rw [x4, y2]; exact g1, g2, by rw [x3 _ n2]; exact g3, fun k hk => ?_⟩
  rw [u1]
  exact g4 k hk
-- the object, where the reader's rows move
theorem stA_frk {k x : Nat} (hA : stA S v x s) (hf : fri b k v v') (hx : x + 6 ≤ b ∨ b + k ≤ x) (hk : ∀ y, b ≤ y → y < b + k → kin S y ≠ some (0, 1)) : stA S v' x s := by
  obtain ⟨⟨l, hh, hc, ⟨l2, hg, ht⟩⟩, hm⟩ := hA
  refine ⟨⟨l, by rw [hf.2 _ (by omega)]; exact hh, by rw [hf.2 _ (by omega)]; exact hc, l2, by rw [hf.2 _ (by omega)]; exact hg, fun i hi => by rw [hf.2 _ (by omega), hf.2 _ (by omega)]; exact ht i hi⟩, fun i hi => ?_⟩
  obtain ⟨r, r1, r2, r3⟩ := hm i hi
  refine ⟨r, r1, r2, ?_⟩
  rw [hf.2 r]
  · exact r3
  · by_cases y : r < b ∨ b + k ≤ r
    · exact y
    · exact absurd r2 (hk r (by omega) (by omega))
theorem cR_in (hR : cR S v a now sv ps re ca ch q) (hf : fri (a + 1) 8 v v') : cR S v' a now sv ps re ca ch q := by
  obtain ⟨hL, ⟨n1, n2⟩, hsv, ⟨n, p1, p2, p3, p4, p5, p6⟩, r2, r3, r4⟩ := hR
  obtain ⟨-, ⟨k1, -, k2, -⟩, -, -, -, l3, -⟩ := id hL
  obtain ⟨j0, -, j1, -, ⟨j2, j3, j4, -⟩, -, j5⟩ := l3
  have hk : ∀ y, a + 1 ≤ y → y < a + 1 + 8 → kin S y ≠ some (0, 1) := by
    intro y y1 y2 e
    have : y = a + 1 ∨ y = a + 2 ∨ y = a + 3 ∨ y = a + 3 + 1 ∨ y = a + 3 + 2 ∨ y = a + 3 + 2 + 1 ∨ y = a + 3 + 2 + 2 ∨ y = a + 3 + 5 := by omega
    rcases this with h | h | h | h | h | h | h | h <;> rw [h] at e
    · rw [k1] at e; cases e
    · rw [k2] at e; cases e
    · rw [j0] at e; cases e
    · rw [j1] at e; cases e
    · rw [j2] at e; cases e
    · rw [j3] at e; cases e
    · rw [j4] at e; cases e
    · rw [j5] at e; cases e
  have e0 : rw v' a = rw v a := hf.2 _ (by omega)
  refine ⟨hL, ⟨stA_frk n1 hf (by omega) hk, n2⟩, ?_, ⟨n, by rw [e0]; exact p1, p2, p3, by rw [e0]; exact p4, p5, fun i s his => ?_⟩, by rw [e0]; exact r2, by rw [e0]; exact r3, by rw [e0]; exact r4⟩
  · rcases hsv with ⟨z1, z2⟩ | ⟨s, z1, z2, z3, z4⟩
    · exact Or.inl ⟨z1, by rw [e0]; exact z2⟩
    · exact Or.inr ⟨s, z1, by rw [e0]; exact z2, stA_frk z3 hf (by omega) hk, z4⟩
  · obtain ⟨y1, y2⟩ := p6 i s his
    exact ⟨y1, stA_frk y2 hf (by omega) hk⟩
end LOADB
