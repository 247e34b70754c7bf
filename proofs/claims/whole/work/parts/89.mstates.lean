/-! The model saves, restores, undoes. -/
section MSTATES
variable {S : shp} {v : vl} {a b m N q : Nat} {h c g t p X : Nat → Int} {M : Nat → Nat → Int} {now : sta} {sv : Option sta} {ps : List sta} {re ca ch : Int}
theorem gm_saveState (hN : 100000 ≤ N) (hR : dR S v m now sv ps re ca ch) (hs : sV now) : UM (F_gm_saveState N m S v) (now, sv, ps, re, ca, ch) (.inr (savO (now, sv, ps, re, ca, ch))) S v m := by
  obtain ⟨hl, h1, hsv, h5, h6, h7, h8, h9⟩ := id hR
  obtain ⟨l0, l1, l2, -, -, ⟨l3, l4⟩, -⟩ := id hl
  have cc := gm_copies (S := S) (v := th v m 0) (a := m + 1) (b := m + 4) (i := 0) (j := 0) (cnt := 199) hN l2 l4 (by decide) (by decide) (by decide) (by decide) (Or.inl (by omega))
  obtain ⟨P, eP⟩ : ∃ P, P = cpR (rw (th v m 0) (m + 1)) (rw (th v m 0) (m + 4)) 0 0 199 := ⟨_, rfl⟩
  obtain ⟨v2, ev⟩ : ∃ v2, v2 = wr (wr (th v m 0) (m + 4) P) m (up (rw (th v m 0) m) 6 (J 1)) := ⟨_, rfl⟩
  have e1 : rw v2 (m + 1) = rw v (m + 1) := by rw [ev, rw_wr_ne (by omega), rw_wr_ne (by omega), rw_th (by omega)]
  have e4 : rw v2 (m + 4) = P := by rw [ev, rw_wr_ne (by omega), rw_wr]
  have e5 : rw v2 (m + 5) = rw v (m + 5) := by rw [ev, rw_wr_ne (by omega), rw_wr_ne (by omega), rw_th (by omega)]
  have em : ∀ k, k ≠ 6 → k ≠ 10 → rw v2 m k = rw v m k := fun k k6 k10 => by rw [ev, rw_wr, up_ne k6]; exact rw_th0 k10
  refine ⟨v2, ?_, ⟨hl, by rw [e1]; exact h1, Or.inr ⟨now, rfl, by rw [ev, rw_wr, up_same], ?_⟩, by rw [em 5 (by decide) (by decide)]; exact h5, fun i s his => by rw [e5]; exact h6 i s his, by rw [em 7 (by decide) (by decide)]; exact h7, by rw [em 8 (by decide) (by decide)]; exact h8, by rw [em 9 (by decide) (by decide)]; exact h9⟩, ?_, ?_⟩
  · have r0 : rw v2 (m + 1) 0 = J (now.1 0) := by rw [e1]; exact h1.1 0 (by decide)
    unfold F_gm_saveState
    rw [grd_true _ hl.1]
    simp only [lt_def, si_th]
    rw [l1]
    simp only [Option.bind_some]
    rw [l3]
    simp only [Option.bind_some]
    rw [show F_gm_copies N (m + 1) (J 0) (m + 4) (J 0) (J 199) S (th v m 0) = _ from cc]
    simp only [Option.bind_some, lt_def, si_wr]
    rw [rw_wr_ne (show m ≠ m + 4 by omega), ← eP, ← ev, grd_true _ l2, gi_rw, r0]
    rfl
  · rw [e4, eP]
    refine rwM_ag h1 hs (fun k hk => ?_)
    rw [cpR_lt hk, rw_th (by omega)]
  · rw [ev]
    exact mch_tr mch_th (mch_tr (mch_wr (by omega)) (mch_m (fun k hk => by rw [up_ne (by omega), rw_wr_ne (by omega)])))
  · rw [ev, rw_wr, up_ne (by decide)]
    exact th10
theorem gm_restoreState (hN : 100000 ≤ N) (hR : dR S v m now sv ps re ca ch) (hs : sV now) (hv : ∀ x, sv = some x → sV x) : UM (F_gm_restoreState N m S v) (now, sv, ps, re, ca, ch) (resO (now, sv, ps, re, ca, ch)) S v m := by
  obtain ⟨hl, h1, hsv, h5, h6, h7, h8, h9⟩ := id hR
  obtain ⟨l0, l1, l2, -, -, ⟨l3, l4⟩, -⟩ := id hl
  have n1 : ¬ J 1 = J 0 := by decide
  have t6 : rw (th v m 0) m 6 = rw v m 6 := rw_th0 (by decide)
  unfold F_gm_restoreState
  rw [grd_true _ hl.1]
  simp only [lt_def, si_th]
  rw [gi_rw, t6]
  unfold K_gm_restoreState_18
  rcases hsv with ⟨z1, z2⟩ | ⟨x, z1, z2, z3⟩
  · subst z1
    rw [z2, if_pos rfl, grd_true _ hl.1, gm_fails1 hl]
    simp only [Option.bind_some, n1, if_false]
    rw [th_th]
    exact ⟨_, rfl, dR_th hR hs, mch_th, th10⟩
  · have hx := hv x z1
    subst z1
    have cc := gm_copies (S := S) (v := th v m 0) (a := m + 4) (b := m + 1) (i := 0) (j := 0) (cnt := 199) hN l4 l2 (by decide) (by decide) (by decide) (by decide) (Or.inl (by omega))
    obtain ⟨P, eP⟩ : ∃ P, P = cpR (rw (th v m 0) (m + 4)) (rw (th v m 0) (m + 1)) 0 0 199 := ⟨_, rfl⟩
    obtain ⟨v2, ev⟩ : ∃ v2, v2 = wr (wr (th v m 0) (m + 1) P) m (up (rw (th v m 0) m) 5 (J 0)) := ⟨_, rfl⟩
    have e1 : rw v2 (m + 1) = P := by rw [ev, rw_wr_ne (by omega), rw_wr]
    have e4 : rw v2 (m + 4) = rw v (m + 4) := by rw [ev, rw_wr_ne (by omega), rw_wr_ne (by omega), rw_th (by omega)]
    have em : ∀ k, k ≠ 5 → k ≠ 10 → rw v2 m k = rw v m k := fun k k6 k10 => by rw [ev, rw_wr, up_ne k6]; exact rw_th0 k10
    have hP : rwM P x := by
      rw [eP]
      refine rwM_ag z3 hx (fun k hk => ?_)
      rw [cpR_lt hk, rw_th (by omega)]
    refine ⟨v2, ?_, ⟨hl, by rw [e1]; exact hP, Or.inr ⟨x, rfl, by rw [em 6 (by decide) (by decide)]; exact z2, by rw [e4]; exact z3⟩, by rw [ev, rw_wr, up_same]; rfl, fun i s his => absurd (get_lt his) (Nat.not_lt_zero _), by rw [em 7 (by decide) (by decide)]; exact h7, by rw [em 8 (by decide) (by decide)]; exact h8, by rw [em 9 (by decide) (by decide)]; exact h9⟩, ?_, ?_⟩
    · have r0 : rw v2 (m + 1) 0 = J (x.1 0) := by rw [e1]; exact hP.1 0 (by decide)
      rw [z2, if_neg n1, grd_true _ hl.1, gm_fails0]
      simp only [Option.bind_some, if_true]
      rw [grd_true _ hl.1, l3]
      simp only [Option.bind_some]
      rw [l1]
      simp only [Option.bind_some]
      rw [show F_gm_copies N (m + 4) (J 0) (m + 1) (J 0) (J 199) S (th v m 0) = _ from cc]
      simp only [Option.bind_some, lt_def, si_wr]
      rw [rw_wr_ne (show m ≠ m + 1 by omega), ← eP, ← ev, grd_true _ l2, gi_rw, r0]
      rfl
    · rw [ev]
      exact mch_tr mch_th (mch_tr (mch_wr (by omega)) (mch_m (fun k hk => by rw [up_ne (by omega), rw_wr_ne (by omega)])))
    · rw [ev, rw_wr, up_ne (by decide)]
      exact th10
theorem gm_undo (hN : 100000 ≤ N) (hR : dR S v m now sv ps re ca ch) (hs : sV now) (hp : psV ps) : UM (F_gm_undo N m S v) (now, sv, ps, re, ca, ch) (undO (now, sv, ps, re, ca, ch)) S v m := by
  obtain ⟨hl, h1, hsv, h5, h6, h7, h8, h9⟩ := id hR
  obtain ⟨l0, l1, l2, -, -, -, ⟨l5, l6⟩, -⟩ := id hl
  have n1 : ¬ J 1 = J 0 := by decide
  have t5 : rw (th v m 0) m 5 = rw v m 5 := rw_th0 (by decide)
  unfold F_gm_undo
  rw [grd_true _ hl.1]
  simp only [lt_def, si_th]
  rw [gi_rw, t5, h5]
  unfold K_gm_undo_18
  cases ps with
  | nil =>
    rw [if_pos (show J (([] : List sta).length : Int) = J 0 from rfl), grd_true _ hl.1, gm_fails1 hl]
    simp only [Option.bind_some, n1, if_false]
    rw [th_th]
    exact ⟨_, rfl, dR_th hR hs, mch_th, th10⟩
  | cons x l =>
    have hlen : ((x :: l).length : Int) = (l.length : Int) + 1 := rfl
    have hl8 : l.length + 1 ≤ 8 := hp.1
    have hx := hp.2 0 x rfl
    have ne5 : m ≠ m + 5 := by omega
    obtain ⟨f, ef⟩ : ∃ f, f = up (rw (th v m 0) m) 5 (J (l.length : Int)) := ⟨_, rfl⟩
    have cc := gm_copies (S := S) (v := wr (th v m 0) m f) (a := m + 5) (b := m + 1) (i := 199 * l.length) (j := 0) (cnt := 199) hN l6 l2 (by omega) (by decide) (by decide) (by decide) (Or.inl (by omega))
    obtain ⟨P, eP⟩ : ∃ P, P = cpR (rw (wr (th v m 0) m f) (m + 5)) (rw (wr (th v m 0) m f) (m + 1)) (199 * l.length) 0 199 := ⟨_, rfl⟩
    obtain ⟨v2, ev⟩ : ∃ v2, v2 = wr (wr (th v m 0) m f) (m + 1) P := ⟨_, rfl⟩
    have e1 : rw v2 (m + 1) = P := by rw [ev, rw_wr]
    have e5 : rw v2 (m + 5) = rw v (m + 5) := by rw [ev, rw_wr_ne (by omega), rw_wr_ne (by omega), rw_th (by omega)]
    have e4 : rw v2 (m + 4) = rw v (m + 4) := by rw [ev, rw_wr_ne (by omega), rw_wr_ne (by omega), rw_th (by omega)]
    have emf : rw v2 m = f := by rw [ev, rw_wr_ne (by omega), rw_wr]
    have em : ∀ k, k ≠ 5 → k ≠ 10 → rw v2 m k = rw v m k := fun k k6 k10 => by rw [emf, ef, up_ne k6]; exact rw_th0 k10
    have hP : rwM P x := by
      rw [eP]
      refine rwM_ag (h6 0 x rfl) hx (fun k hk => ?_)
      unfold cpR
      rw [if_pos (by omega), rw_wr_ne (by omega), rw_th (by omega)]
      congr 1
    refine ⟨v2, ?_, ⟨hl, by rw [e1]; exact hP, ?_, by rw [emf, ef, up_same]; rfl, fun i s his => ?_, by rw [em 7 (by decide) (by decide)]; exact h7, by rw [em 8 (by decide) (by decide)]; exact h8, by rw [em 9 (by decide) (by decide)]; exact h9⟩, ?_, ?_⟩
    · have f5 : f 5 = J (l.length : Int) := by rw [ef, up_same]
      rw [if_neg (show ¬ J ((x :: l).length : Int) = J 0 from fun z => by have := (J_eq (by omega) (by decide)).mp z; omega), grd_true _ hl.1, gm_fails0]
      simp only [Option.bind_some, if_true]
      rw [grd_true _ hl.1]
      simp only [lt_def, si_wr, gi_x, t5, h5]
      rw [hlen, ← J_sub, show (l.length : Int) + 1 - 1 = (l.length : Int) by omega, ← ef, l5]
      simp only [Option.bind_some]
      rw [l1]
      simp only [Option.bind_some, rw_wr, f5]
      rw [← J_mul, show (199 : Int) * (l.length : Int) = ((199 * l.length : Nat) : Int) by omega, show F_gm_copies N (m + 5) (J ((199 * l.length : Nat) : Int)) (m + 1) (J 0) (J 199) S (wr (th v m 0) m f) = _ from cc]
      simp only [Option.bind_some]
      rw [← eP, ← ev, emf, f5]
      rfl
    · rcases hsv with ⟨z1, z2⟩ | ⟨s, z1, z2, z3⟩
      · exact Or.inl ⟨z1, by rw [em 6 (by decide) (by decide)]; exact z2⟩
      · exact Or.inr ⟨s, z1, by rw [em 6 (by decide) (by decide)]; exact z2, by rw [e4]; exact z3⟩
    · have y2 := h6 (i + 1) s his
      have y1 := hp.2 (i + 1) s his
      have il := get_lt (l := l) (i := i) his
      rw [e5]
      refine rwM_ag y2 y1 (fun k hk => ?_)
      congr 1
      show 199 * (l.length - 1 - i) + k = 199 * (l.length + 1 - 1 - (i + 1)) + k
      omega
    · rw [ev]
      exact mch_tr mch_th (mch_tr (mch_m (fun k hk => by rw [ef, up_ne (by omega)])) (mch_wr (by omega)))
    · rw [emf, ef, up_ne (by decide)]
      exact th10
end MSTATES
