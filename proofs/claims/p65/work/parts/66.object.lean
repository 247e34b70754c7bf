/-! The class's object in memory. -/
section OBJECT
def gcL (S : shp) (a : Nat) : Prop := (kin S a = some (0, 5) ∧ gr S a 0 = some (a + 1) ∧ gr S a 1 = some (a + 9) ∧ gr S a 5 = some (a + 11) ∧ gr S a 6 = some (a + 17) ∧ gr S a 7 = some (a + 23) ∧ gr S a 8 = some (a + 29) ∧ gr S a 10 = some (a + 35)) ∧ (kin S (a + 1) = some (0, 2) ∧ gr S (a + 1) 0 = some (a + 2) ∧ kin S (a + 2) = some (2, 500) ∧ gr S (a + 1) 4 = some (a + 3)) ∧ kin S (a + 9) = some (0, 7) ∧ kin S (a + 35) = some (4, 8) ∧ (∀ i, i < 8 → gr S (a + 35) i = some (a + 36 + 6 * i)) ∧ stL S (a + 3) ∧ stL S (a + 11) ∧ stL S (a + 17) ∧ stL S (a + 23) ∧ stL S (a + 29) ∧ ∀ i, i < 8 → stL S (a + 36 + 6 * i)
/-- where its states lie -/
def isB (a b : Nat) : Prop := b = a + 3 ∨ b = a + 11 ∨ b = a + 17 ∨ b = a + 23 ∨ b = a + 29 ∨ ∃ i, i < 8 ∧ b = a + 36 + 6 * i
theorem isB_ne {a b x : Nat} (hb : isB a b) (hx : isB a x) (h : x ≠ b) : x + 6 ≤ b ∨ b + 6 ≤ x := by
  unfold isB at hb hx
  rcases hb with q | q | q | q | q | ⟨i, hi, q⟩ <;> rcases hx with z | z | z | z | z | ⟨j, hj, z⟩ <;> omega
theorem isB_lo {a b : Nat} (hb : isB a b) : a + 3 ≤ b ∧ b + 6 ≤ a + 84 ∧ (b + 6 ≤ a + 9 ∨ a + 11 ≤ b) ∧ (b + 6 ≤ a + 35 ∨ a + 36 ≤ b) := by
  unfold isB at hb
  rcases hb with q | q | q | q | q | ⟨i, hi, q⟩ <;> omega
theorem gcL_st {S : shp} {a b : Nat} (h : gcL S a) (hb : isB a b) : stL S b := by
  obtain ⟨-, -, -, -, -, s3, s11, s17, s23, s29, s36⟩ := h
  unfold isB at hb
  rcases hb with q | q | q | q | q | ⟨i, hi, q⟩
  · rw [q]; exact s3
  · rw [q]; exact s11
  · rw [q]; exact s17
  · rw [q]; exact s23
  · rw [q]; exact s29
  · rw [q]; exact s36 i hi
theorem gcL_exi {S S' : shp} {v v' : vl} {a b k l : Nat} (hL : gcL S a) (hw : wfS S) (hb : isB a b) (hs : stL S' b) (he : exi b 6 k l S v S' v') : gcL S' a := by
  have lo := isB_lo hb
  have st : ∀ x, isB a x → stL S' x := fun x hx => by
    by_cases q : x = b
    · rw [q]; exact hs
    · exact stL_exi (gcL_st hL hx) hw (isB_ne hb hx q) he
  obtain ⟨⟨k0, g0, g1, g5, g6, g7, g8, g10⟩, ⟨k1, f0, k2, f4⟩, k9, k35, g35, -⟩ := hL
  refine ⟨⟨exi_kin he hw k0, (exi_gr he hw k0 (by omega)).trans g0, (exi_gr he hw k0 (by omega)).trans g1, (exi_gr he hw k0 (by omega)).trans g5, (exi_gr he hw k0 (by omega)).trans g6, (exi_gr he hw k0 (by omega)).trans g7, (exi_gr he hw k0 (by omega)).trans g8, (exi_gr he hw k0 (by omega)).trans g10⟩, ⟨exi_kin he hw k1, (exi_gr he hw k1 (by omega)).trans f0, exi_kin he hw k2, (exi_gr he hw k1 (by omega)).trans f4⟩, exi_kin he hw k9, exi_kin he hw k35, fun i hi => (exi_gr he hw k35 (by omega)).trans (g35 i hi), ?_, ?_, ?_, ?_, ?_, fun i hi => ?_⟩
  · exact st _ (Or.inl rfl)
  · exact st _ (Or.inr (Or.inl rfl))
  · exact st _ (Or.inr (Or.inr (Or.inl rfl)))
  · exact st _ (Or.inr (Or.inr (Or.inr (Or.inl rfl))))
  · exact st _ (Or.inr (Or.inr (Or.inr (Or.inr (Or.inl rfl)))))
  · exact st _ (Or.inr (Or.inr (Or.inr (Or.inr (Or.inr ⟨i, hi, rfl⟩)))))
/-- a state: h, c, g, t, p, M -/
abbrev sta : Type := (Nat → Int) × (Nat → Int) × (Nat → Int) × (Nat → Int) × (Nat → Int) × (Nat → Nat → Int)
def stA (S : shp) (v : vl) (b : Nat) (s : sta) : Prop := stM S v b s.1 s.2.1 s.2.2.1 s.2.2.2.1 s.2.2.2.2.1 ∧ msR S v (b + 5) (s.1 5) s.2.2.2.2.2
def sV (s : sta) : Prop := stV s.1 s.2.1 s.2.2.1 s.2.2.2.1 s.2.2.2.2.1 s.2.2.2.2.2
theorem stA_exi {S S' : shp} {v v' : vl} {b x k l : Nat} {s : sta} (h : stA S v x s) (hw : wfS S) (hb : stL S b) (hxb : x + 6 ≤ b ∨ b + 6 ≤ x) (he : exi b 6 k l S v S' v') : stA S' v' x s :=
  ⟨stM_exi h.1 hw hxb he, msR_exi h.2 hb hw h.1.1.2.2.2.2.2.2 (by omega) he⟩
/-- the state now, the one saved, the past ones (the latest first), reason, cause, chosenBy; q calls so far -/
def cR (S : shp) (v : vl) (a : Nat) (now : sta) (sv : Option sta) (ps : List sta) (re ca ch : Int) (q : Nat) : Prop := gcL S a ∧ (stA S v (a + 11) now ∧ sV now) ∧ ((sv = none ∧ rw v a 9 = J 0) ∨ ∃ s, sv = some s ∧ rw v a 9 = J 1 ∧ stA S v (a + 29) s ∧ sV s) ∧ (∃ n : Nat, rw v a 11 = J n ∧ ps.length ≤ n ∧ n ≤ q ∧ rw v a 12 = J ps.length ∧ ps.length ≤ 8 ∧ ∀ i s, ps[i]? = some s → sV s ∧ stA S v (a + 36 + 6 * ((n - 1 - i) % 8)) s) ∧ rw v a 2 = J re ∧ rw v a 3 = J ca ∧ rw v a 4 = J ch
theorem cR_exi {S S' : shp} {v v' : vl} {a b k l : Nat} {now : sta} {sv : Option sta} {ps : List sta} {re ca ch : Int} {q : Nat} (h : cR S v a now sv ps re ca ch q) (hw : wfS S) (hb : b = a + 3 ∨ b = a + 17 ∨ b = a + 23) (hs : stL S' b) (he : exi b 6 k l S v S' v') : cR S' v' a now sv ps re ca ch q := by
  obtain ⟨hL, ⟨n1, n2⟩, hsv, ⟨n, p1, p2, p3, p4, p5, p6⟩, r2, r3, r4⟩ := h
  have hB : isB a b := by unfold isB; omega
  have hb' := gcL_st hL hB
  have k0 := hL.1.1
  have e0 : rw v' a = rw v a := exi_rw he hw k0 (by omega)
  refine ⟨gcL_exi hL hw hB hs he, ⟨stA_exi n1 hw hb' (by omega) he, n2⟩, ?_, ⟨n, by rw [e0]; exact p1, p2, p3, by rw [e0]; exact p4, p5, fun i s his => ?_⟩, by rw [e0]; exact r2, by rw [e0]; exact r3, by rw [e0]; exact r4⟩
  · rcases hsv with ⟨z1, z2⟩ | ⟨s, z1, z2, z3, z4⟩
    · exact Or.inl ⟨z1, by rw [e0]; exact z2⟩
    · exact Or.inr ⟨s, z1, by rw [e0]; exact z2, stA_exi z3 hw hb' (by omega) he, z4⟩
  · obtain ⟨y1, y2⟩ := p6 i s his
    exact ⟨y1, stA_exi y2 hw hb' (by omega) he⟩
theorem gc_fresh {S : shp} {v : vl} {a b N : Nat} {now : sta} (hN : 100 ≤ N) (hw : wfS S) (hL : gcL S a) (hn : stA S v (a + 11) now) (hV : sV now) (hb : b = a + 17 ∨ b = a + 23) :
    ∃ S' v', F_gc_fresh N a b S v = some (some b, S', v') ∧ stA S' v' b now ∧ exi b 6 0 0 S v S' v' := by
  have hB : isB a b := by unfold isB; omega
  have lb := gcL_st hL hB
  obtain ⟨⟨k0, g0, g1, g5, -⟩, -⟩ := id hL
  have h8 := stV_8 hV
  have h5 := hV.1.2.2.2.2
  obtain ⟨S', v', q1, q2, q3, q4⟩ := st_copyFrom (N := N) hN hw lb hn.1 hn.2 (by omega) h8.2.2 h5
  unfold F_gc_fresh
  rw [grd_true _ k0, g5]
  simp only [Option.bind_some]
  rw [grd_true _ lb.1, q1]
  exact ⟨S', v', rfl, ⟨q2, q3⟩, q4⟩
end OBJECT
