/-! Setting what may be set. -/
section SETS
variable {S : shp} {v : vl} {a b m N q : Nat} {h c g t p X : Nat → Int} {M : Nat → Nat → Int} {now : sta} {sv : Option sta} {ps : List sta} {re ca ch : Int}
def upZ (f : Nat → Int) (k : Nat) (x : Int) : Nat → Int := fun j => if j = k then x else f j
def stS (w x : Int) (s : sta) : sta := if w = 1 then (s.1, upZ s.2.1 1 x, s.2.2) else if w = 2 then (s.1, upZ s.2.1 2 x, s.2.2) else if w = 4 then (upZ s.1 1 x, s.2) else if w = 5 then (upZ s.1 2 x, s.2) else (upZ s.1 3 x, s.2)
def setU (s : full) (w x : Int) : Nat ⊕ (Int × full) := if mzZ w x = 1 then .inr (oVal (setO s.1.1 s.1.2.1 s.1.2.2.1 w), (stS w x s.1, s.2.1, keepP s.1 s.2.2.1, s.2.2.2)) else .inl 1
theorem rn_1 {lo hi x : Int} (h : rnZ lo hi x = 1) : lo ≤ x ∧ x ≤ hi := by
  unfold rnZ at h
  by_cases a : lo ≤ x ∧ x ≤ hi
  · exact a
  · rw [if_neg a] at h
    omega
theorem mz_1 {w x : Int} (h : mzZ w x = 1) : (w = 1 ∧ -99 ≤ x ∧ x ≤ 99) ∨ (w = 2 ∧ -1 ≤ x ∧ x ≤ 1) ∨ (w = 4 ∧ 1 ≤ x ∧ x ≤ 9999) ∨ (w = 5 ∧ 1 ≤ x ∧ x ≤ 999) ∨ (w = 6 ∧ -99 ≤ x ∧ x ≤ 99) := by
  unfold mzZ at h
  by_cases w1 : w = 1
  · rw [if_pos w1] at h; exact Or.inl ⟨w1, rn_1 h⟩
  rw [if_neg w1] at h
  by_cases w2 : w = 2
  · rw [if_pos w2] at h; exact Or.inr (Or.inl ⟨w2, rn_1 h⟩)
  rw [if_neg w2] at h
  by_cases w3 : w = 3
  · rw [if_pos w3] at h; omega
  rw [if_neg w3] at h
  by_cases w4 : w = 4
  · rw [if_pos w4] at h; exact Or.inr (Or.inr (Or.inl ⟨w4, rn_1 h⟩))
  rw [if_neg w4] at h
  by_cases w5 : w = 5
  · rw [if_pos w5] at h; exact Or.inr (Or.inr (Or.inr (Or.inl ⟨w5, rn_1 h⟩)))
  rw [if_neg w5] at h
  by_cases w6 : w = 6
  · rw [if_pos w6] at h; exact Or.inr (Or.inr (Or.inr (Or.inr ⟨w6, rn_1 h⟩)))
  rw [if_neg w6] at h
  omega
theorem mz_01 {w x : Int} (h : ¬ mzZ w x = 1) : mzZ w x = 0 := by
  have r : ∀ lo hi : Int, rnZ lo hi x = 1 ∨ rnZ lo hi x = 0 := fun lo hi => by unfold rnZ; split <;> simp
  have r1 := r (-99) 99
  have r2 := r (-1) 1
  have r4 := r 1 9999
  have r5 := r 1 999
  unfold mzZ at h ⊢
  split at h
  · rw [if_pos (by assumption)]; omega
  · rw [if_neg (by assumption)]
    split at h
    · rw [if_pos (by assumption)]; omega
    · rw [if_neg (by assumption)]
      split at h
      · rw [if_pos (by assumption)]
      · rw [if_neg (by assumption)]
        split at h
        · rw [if_pos (by assumption)]; omega
        · rw [if_neg (by assumption)]
          split at h
          · rw [if_pos (by assumption)]; omega
          · rw [if_neg (by assumption)]
            split at h
            · rw [if_pos (by assumption)]; omega
            · rw [if_neg (by assumption)]
theorem stS_V {w x : Int} (hs : sV now) (hm : mzZ w x = 1) : sV (stS w x now) := by
  obtain ⟨⟨v0, v1, v2, v3, v5⟩, ⟨⟨b0, b1, b2, b3, b4, b5⟩, c4, c6⟩, hg, hu, hT, hM⟩ := hs
  unfold stS
  rcases mz_1 hm with ⟨e, z⟩ | ⟨e, z⟩ | ⟨e, z⟩ | ⟨e, z⟩ | ⟨e, z⟩
  · rw [if_pos e]
    exact ⟨⟨v0, v1, v2, v3, v5⟩, ⟨⟨b0, z, b2, b3, b4, b5⟩, c4, c6⟩, hg, hu, hT, hM⟩
  · rw [if_neg (by omega), if_pos e]
    exact ⟨⟨v0, v1, v2, v3, v5⟩, ⟨⟨b0, b1, z, b3, b4, b5⟩, c4, c6⟩, hg, hu, hT, hM⟩
  · rw [if_neg (by omega), if_neg (by omega), if_pos e]
    exact ⟨⟨v0, z, v2, v3, v5⟩, ⟨⟨b0, b1, b2, b3, b4, b5⟩, c4, c6⟩, hg, hu, hT, hM⟩
  · rw [if_neg (by omega), if_neg (by omega), if_neg (by omega), if_pos e]
    exact ⟨⟨v0, v1, z, v3, v5⟩, ⟨⟨b0, b1, b2, b3, b4, b5⟩, c4, c6⟩, hg, hu, hT, hM⟩
  · rw [if_neg (by omega), if_neg (by omega), if_neg (by omega), if_neg (by omega)]
    exact ⟨⟨v0, v1, v2, z, v5⟩, ⟨⟨b0, b1, b2, b3, b4, b5⟩, c4, c6⟩, hg, hu, hT, hM⟩
theorem cR_setH {k : Nat} {x : Int} (hw : wfS S) (hR : cR S v a (h, c, g, t, p, M) sv ps re ca ch q) (h5 : k ≠ 5) (hV' : sV (upZ h k x, c, g, t, p, M)) : wfS S ∧ cR S (wr v (a + 11) (up (rw v (a + 11)) k (J x))) a (upZ h k x, c, g, t, p, M) sv ps re ca ch q ∧ exg a 0 0 S v S (wr v (a + 11) (up (rw v (a + 11)) k (J x))) := by
  obtain ⟨⟨l, hh1, hc1, hW1⟩, hm1⟩ := hR.2.1.1
  have F1 : fri (a + 11) 6 v (wr v (a + 11) (up (rw v (a + 11)) k (J x))) := fri_wr (by omega)
  have N1 := msR_fri hm1 l F1
  have e5 : upZ h k x 5 = h 5 := if_neg (fun z => h5 z.symm)
  have N2 : msR S (wr v (a + 11) (up (rw v (a + 11)) k (J x))) (a + 11 + 5) (upZ h k x 5) M := by rw [e5]; exact N1
  obtain ⟨w2, R2⟩ := cR_put (now' := (upZ h k x, c, g, t, p, M)) hR hw (exi_fri F1) ⟨⟨l, by rw [rw_wr]; exact ag_up hh1, by rw [rw_wr_ne (by omega)]; exact hc1, sgW_ne hW1 (by omega)⟩, N2⟩ hV'
  exact ⟨w2, R2, exg_exi (exi_fri F1) (by omega) (Nat.le_refl _) (Nat.le_refl _)⟩
theorem cR_setC {k : Nat} {x : Int} (hw : wfS S) (hR : cR S v a (h, c, g, t, p, M) sv ps re ca ch q) (hV' : sV (h, upZ c k x, g, t, p, M)) : wfS S ∧ cR S (wr v (a + 11 + 1) (up (rw v (a + 11 + 1)) k (J x))) a (h, upZ c k x, g, t, p, M) sv ps re ca ch q ∧ exg a 0 0 S v S (wr v (a + 11 + 1) (up (rw v (a + 11 + 1)) k (J x))) := by
  obtain ⟨⟨l, hh1, hc1, hW1⟩, hm1⟩ := hR.2.1.1
  have F1 : fri (a + 11) 6 v (wr v (a + 11 + 1) (up (rw v (a + 11 + 1)) k (J x))) := fri_wr (by omega)
  have N1 := msR_fri hm1 l F1
  obtain ⟨w2, R2⟩ := cR_put (now' := (h, upZ c k x, g, t, p, M)) hR hw (exi_fri F1) ⟨⟨l, by rw [rw_wr_ne (by omega)]; exact hh1, by rw [rw_wr]; exact ag_up hc1, sgW_ne hW1 (by omega)⟩, N1⟩ hV'
  exact ⟨w2, R2, exg_exi (exi_fri F1) (by omega) (Nat.le_refl _) (Nat.le_refl _)⟩
theorem gc_set {w x : Int} (hN : 100 ≤ N) (hw : wfS S) (hR : cR S v a now sv ps re ca ch q) (hq : q ≤ 1000) (hw' : -2147483648 ≤ w ∧ w < 2147483648) (hx : -2147483648 ≤ x ∧ x < 2147483648) :
    UC (F_gc_set N a (J w) (J x) S v) f10 (setU (now, sv, ps, re, ca, ch) w x) a (q + 1) S v := by
  obtain ⟨h, c, g, t, p, M⟩ := now
  have k0 := hR.1.1.1
  unfold F_gc_set F_gc_require setU
  rw [gc_maySet hw' hx]
  simp only [Option.bind_some]
  by_cases z : mzZ w x = 1
  · obtain ⟨S1, v1, e1, w1, R1, G1⟩ := gc_keep hN hw hR hq
    obtain ⟨k0', g5', n0', r6', n1', r7', n2', hh', hc', hg'⟩ := cR_now R1
    have hV' := stS_V (now := (h, c, g, t, p, M)) hR.2.1.2 z
    have St := gc_setting hR hw'
    have e : ∀ n : Int, (0 ≤ n ∧ n ≤ 8) → (J w = J n ↔ w = n) := fun n hn => J_eq hw' (by omega)
    have eS : rC (fun _ => 0) (setO h c g w) = .inr (J (oVal (setO h c g w))) := by
      unfold setO
      rcases mz_1 z with ⟨e, -⟩ | ⟨e, -⟩ | ⟨e, -⟩ | ⟨e, -⟩ | ⟨e, -⟩ <;> subst e <;> rfl
    rw [z, if_neg (by decide), bx_r, grd_true _ k0, St, eS, bx_r, e1, if_pos rfl]
    simp only [Option.bind_some]
    unfold stS at hV' ⊢
    rcases mz_1 z with ⟨ew, -⟩ | ⟨ew, -⟩ | ⟨ew, -⟩ | ⟨ew, -⟩ | ⟨ew, -⟩
    · rw [if_pos ew] at hV'
      obtain ⟨w2, R2, G2⟩ := cR_setC w1 R1 hV'
      rw [if_pos ((e 1 (by decide)).mpr ew), g5', if_pos ew]
      simp only [Option.bind_some]
      rw [grd_true _ n0', r6']
      simp only [Option.bind_some]
      rw [grd_true _ n1', lt_def, si_wr]
      exact ⟨S1, _, rfl, w2, R2, exg_0 (exg_tr G1 G2)⟩
    · rw [if_neg (by omega), if_pos ew] at hV'
      obtain ⟨w2, R2, G2⟩ := cR_setC w1 R1 hV'
      rw [if_neg (fun y => by have := (e 1 (by decide)).mp y; omega), if_pos ((e 2 (by decide)).mpr ew), g5', if_neg (show ¬ w = 1 by omega), if_pos ew]
      simp only [Option.bind_some]
      rw [grd_true _ n0', r6']
      simp only [Option.bind_some]
      rw [grd_true _ n1', lt_def, si_wr]
      exact ⟨S1, _, rfl, w2, R2, exg_0 (exg_tr G1 G2)⟩
    · rw [if_neg (by omega), if_neg (by omega), if_pos ew] at hV'
      obtain ⟨w2, R2, G2⟩ := cR_setH w1 R1 (by decide) hV'
      rw [if_neg (fun y => by have := (e 1 (by decide)).mp y; omega), if_neg (fun y => by have := (e 2 (by decide)).mp y; omega), if_pos ((e 4 (by decide)).mpr ew), g5', if_neg (show ¬ w = 1 by omega), if_neg (show ¬ w = 2 by omega), if_pos ew]
      simp only [Option.bind_some]
      rw [grd_true _ n0', lt_def, si_wr]
      exact ⟨S1, _, rfl, w2, R2, exg_0 (exg_tr G1 G2)⟩
    · rw [if_neg (by omega), if_neg (by omega), if_neg (by omega), if_pos ew] at hV'
      obtain ⟨w2, R2, G2⟩ := cR_setH w1 R1 (by decide) hV'
      rw [if_neg (fun y => by have := (e 1 (by decide)).mp y; omega), if_neg (fun y => by have := (e 2 (by decide)).mp y; omega), if_neg (fun y => by have := (e 4 (by decide)).mp y; omega), if_pos ((e 5 (by decide)).mpr ew), g5', if_neg (show ¬ w = 1 by omega), if_neg (show ¬ w = 2 by omega), if_neg (show ¬ w = 4 by omega), if_pos ew]
      simp only [Option.bind_some]
      rw [grd_true _ n0', lt_def, si_wr]
      exact ⟨S1, _, rfl, w2, R2, exg_0 (exg_tr G1 G2)⟩
    · rw [if_neg (by omega), if_neg (by omega), if_neg (by omega), if_neg (by omega)] at hV'
      obtain ⟨w2, R2, G2⟩ := cR_setH w1 R1 (by decide) hV'
      rw [if_neg (fun y => by have := (e 1 (by decide)).mp y; omega), if_neg (fun y => by have := (e 2 (by decide)).mp y; omega), if_neg (fun y => by have := (e 4 (by decide)).mp y; omega), if_neg (fun y => by have := (e 5 (by decide)).mp y; omega), g5', if_neg (show ¬ w = 1 by omega), if_neg (show ¬ w = 2 by omega), if_neg (show ¬ w = 4 by omega), if_neg (show ¬ w = 5 by omega)]
      simp only [Option.bind_some]
      rw [grd_true _ n0', lt_def, si_wr]
      exact ⟨S1, _, rfl, w2, R2, exg_0 (exg_tr G1 G2)⟩
  · rw [mz_01 z, if_pos rfl, if_neg (by decide), bx_l]
    rfl
end SETS
