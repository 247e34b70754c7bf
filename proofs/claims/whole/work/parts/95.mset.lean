/-! The model sets. -/
section MSETS
variable {S : shp} {v : vl} {a b m N q : Nat} {h c g t p X : Nat → Int} {M : Nat → Nat → Int} {now : sta} {sv : Option sta} {ps : List sta} {re ca ch : Int}
theorem gm_set {w x : Int} (hN : 100000 ≤ N) (hR : dR S v m now sv ps re ca ch) (hs : sV now) (hp : psV ps) (hw' : -2147483648 ≤ w ∧ w < 2147483648) (hx : -2147483648 ≤ x ∧ x < 2147483648) :
    UM (F_gm_set N m (J w) (J x) S v) (now, sv, ps, re, ca, ch) (setU (now, sv, ps, re, ca, ch) w x) S v m := by
  obtain ⟨h, c, g, t, p, M⟩ := now
  have hl := hR.1
  have h1 : rowM (rw v (m + 1)) h c g t p M := hR.2.1
  have n1 : ¬ J 1 = J 0 := by decide
  unfold F_gm_set setU
  rw [grd_true _ hl.1]
  simp only [lt_def, si_th]
  rw [gm_mayBe hw' hx]
  simp only [Option.bind_some]
  unfold K_gm_set_19
  by_cases z : mzZ w x = 1
  · rw [z, if_neg n1, if_pos rfl, grd_true _ hl.1, gm_fails0]
    simp only [Option.bind_some, if_true]
    -- the change of place i
    have go : ∀ (i : Nat) (now' : sta) (old : Int), i < 199 → J 1 + J w = J (i : Int) → rw v (m + 1) i = J old → rwM (up (rw v (m + 1)) i (J x)) now' → UM (grd (kin S m = some (0, 6)) <| (F_gm_remembers N m S (th v m 0)).bind fun w8 => (gr S m 0).bind fun r9 => grd (kin S r9 = some (1, 199)) <| grd (vp_in (J 1 + J w) (alen S r9)) <| lt (gi w8 r9 (Int32.toNatClampNeg (J 1 + J w))) fun x13 => lt (si w8 r9 (Int32.toNatClampNeg (J 1 + J w)) (J x)) fun w14 => some ((x13, w14))) ((h, c, g, t, p, M), sv, ps, re, ca, ch) (.inr (old, (now', sv, keepP (h, c, g, t, p, M) ps, re, ca, ch))) S v m := by
      intro i now' old hi e1 e2 e3
      have ti : (J (i : Int)).toInt = (i : Int) := J_toInt (by omega) (by omega)
      obtain ⟨v1, f1, f2, f3, f4, f5⟩ := gm_keepRow (x := 0) (now' := now') hN hR hs hp e3
      rw [grd_true _ hl.1, f1]
      simp only [Option.bind_some]
      rw [hl.2.1]
      simp only [Option.bind_some]
      rw [e1, grd_true _ hl.2.2.1, grd_true _ (vin_of hl.2.2.1 ti hi), clampT ti]
      simp only [lt_def, si_wr, gi_x, f2, e2]
      exact ⟨_, rfl, f3, f4, f5⟩
    unfold stS
    rcases mz_1 z with ⟨ew, -⟩ | ⟨ew, -⟩ | ⟨ew, -⟩ | ⟨ew, -⟩ | ⟨ew, -⟩
    · subst ew
      have r : rw v (m + 1) 2 = J (c 1) := h1.1 2 (by decide)
      rw [if_pos rfl]
      exact go 2 _ (c 1) (by decide) (by decide) r (rowM_set1 h1)
    · subst ew
      have r : rw v (m + 1) 3 = J (c 2) := h1.1 3 (by decide)
      rw [if_neg (by decide), if_pos rfl]
      exact go 3 _ (c 2) (by decide) (by decide) r (rowM_set2 h1)
    · subst ew
      have r : rw v (m + 1) 5 = J (h 1) := h1.1 5 (by decide)
      rw [if_neg (by decide), if_neg (by decide), if_pos rfl]
      exact go 5 _ (h 1) (by decide) (by decide) r (rowM_set4 h1)
    · subst ew
      have r : rw v (m + 1) 6 = J (h 2) := h1.1 6 (by decide)
      rw [if_neg (by decide), if_neg (by decide), if_neg (by decide), if_pos rfl]
      exact go 6 _ (h 2) (by decide) (by decide) r (rowM_set5 h1)
    · subst ew
      have r : rw v (m + 1) 7 = J (h 3) := h1.1 7 (by decide)
      rw [if_neg (by decide), if_neg (by decide), if_neg (by decide), if_neg (by decide)]
      exact go 7 _ (h 3) (by decide) (by decide) r (rowM_set6 h1)
  · rw [mz_01 z, if_pos rfl, if_neg (by decide), grd_true _ hl.1, gm_fails1 hl]
    simp only [Option.bind_some, n1, if_false]
    rw [th_th]
    exact ⟨_, rfl, dR_th hR hs, mch_th, th10⟩
end MSETS
