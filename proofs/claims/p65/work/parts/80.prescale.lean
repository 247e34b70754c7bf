/-! The best prescale. -/
section PRESCALE
/-- the prescaler set anew -/
def psG (g : Nat → Int) (P : Int) : Nat → Int := fun j => if j = 7 then g 3 else if j = 6 then g 2 else if j = 5 then 0 else if j = 4 then P else g j
theorem psG_J {t p g : Nat → Int} {u P : Int} (h : sgJ u t p g) (hP : 1 ≤ P ∧ P ≤ 16) : sgJ u t p (psG g P) := by
  obtain ⟨⟨a0, a1, a2, a3, a4, a5⟩, b, c, d⟩ := h
  exact ⟨⟨a0, a1, a2, a3, hP, ⟨Int.le_refl _, by show 0 < P; omega⟩⟩, b, c, d⟩
theorem psG_V {t p g : Nat → Int} {P : Int} (h : sgV t p g) (hP : 1 ≤ P ∧ P ≤ 16) : sgV t p (psG g P) := by
  obtain ⟨⟨u, hJ, q0, q1⟩, -, -⟩ := h
  have := hJ.1.2.2.2.1
  exact ⟨⟨u, psG_J hJ hP, q0, q1⟩, ⟨by show 0 ≤ g 2; omega, Int.le_refl _⟩, ⟨by show 0 ≤ g 3; omega, Int.le_refl _⟩⟩
theorem psG_st {h c g t p : Nat → Int} {M : Nat → Nat → Int} {P : Int} (hs : stV h c g t p M) (hP : 1 ≤ P ∧ P ≤ 16) : stV h c (psG g P) t p M := by
  obtain ⟨a, b, d, ⟨u, hJ, q0, q1⟩, e⟩ := hs
  exact ⟨a, b, psG_V d hP, ⟨u, psG_J hJ hP, q0, q1⟩, e⟩
variable {S : shp} {v : vl} {a b m N q : Nat} {h c g t p X : Nat → Int} {M : Nat → Nat → Int} {sv : Option sta} {ps : List sta} {re ca ch : Int}
def pv (i : Nat) : Int := match i with
  | 0 => 1
  | 1 => 2
  | 2 => 4
  | 3 => 8
  | _ => 16
theorem pv_B (i : Nat) : 1 ≤ pv i ∧ pv i ≤ 16 := by
  unfold pv
  split <;> decide
/-- the table of prescales -/
def tPs (S : shp) (v : vl) (a : Nat) : Prop := kin S (kad S 0) = some (11, 5) ∧ (kad S 0 < a ∨ a + 84 ≤ kad S 0) ∧ ∀ i, i < 5 → rw v (kad S 0) i = J (pv i)
theorem tPs_exg {S' : shp} {v' : vl} {k l : Nat} (hT : tPs S v a) (hw : wfS S) (he : exg a k l S v S' v') : tPs S' v' a := by
  obtain ⟨t1, t2, t3⟩ := hT
  obtain ⟨-, x2, x3, x4, -⟩ := he
  have hn := kin_lt hw t1
  refine ⟨by rw [x4, x3 _ hn]; exact t1, by rw [x4]; exact t2, fun i hi => ?_⟩
  rw [x4, (x2 _ (by omega) (by omega) hn).1]
  exact t3 i hi
theorem sg_setUp {P : Int} (hW : sgW S v b t p g) : ∃ f, F_sg_setUpPrescaler b (J P) S v = some (wr v b f) ∧ ag 10 f (psG g P) := by
  obtain ⟨l1, hg, -⟩ := hW
  refine ⟨up (up (up (up (rw v b) 4 (J P)) 5 (J 0)) 6 (rw v b 2)) 7 (rw v b 3), ?_, ?_⟩
  · unfold F_sg_setUpPrescaler
    rw [grd_true _ l1.1]
    simp only [lt_def, si_wr, gi_x, rw_wr, wr_wr]
    rfl
  · rw [hg 2 (by decide), hg 3 (by decide)]
    exact ag_up (ag_up (ag_up (ag_up hg)))
theorem st_setUp {P : Int} (hM : stM S v b h c g t p) : ∃ f, F_sg_setUpPrescaler (b + 2) (J P) S v = some (wr v (b + 2) f) ∧ stM S (wr v (b + 2) f) b h c (psG g P) t p := by
  obtain ⟨l, hh, hc, hW⟩ := hM
  obtain ⟨f, e, hf⟩ := sg_setUp (P := P) hW
  exact ⟨f, e, l, by rw [rw_wr_ne (by omega)]; exact hh, by rw [rw_wr_ne (by omega)]; exact hc, sgW_wr hW hf rfl⟩
end PRESCALE
