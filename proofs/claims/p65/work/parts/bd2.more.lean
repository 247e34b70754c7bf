/-! A segment more. -/
section ADDSEG
variable {S : shp} {v : vl} {a b m N q : Nat} {h c g t p X : Nat → Int} {M : Nat → Nat → Int} {now : sta} {sv : Option sta} {ps : List sta} {re ca ch : Int} {x y : Int}
theorem lsZ_B (hs : stV h c g t p M) : -1 ≤ lsZ g t ∧ lsZ g t < 2000000 := by
  obtain ⟨-, -, ⟨⟨u, hJ, q0, q1⟩, -⟩, -⟩ := hs
  have h8 := hJ.2.1
  unfold lsZ
  split
  · have := (hJ.2.2.1 (g 8 - 1).toNat (by omega)).1
    omega
  · omega
theorem sg_last (hW : sgW S v b t p g) (h8 : 0 ≤ g 8 ∧ g 8 ≤ 8) : F_sg_lastTime b S v = some (J (lsZ g t)) := by
  obtain ⟨⟨k0, k1, k2, r10, r11⟩, hg, hi⟩ := id hW
  have e8 : rw v b 8 = J (g 8) := hg 8 (by decide)
  unfold F_sg_lastTime lsZ
  rw [grd_true _ k0, gi_rw, e8]
  by_cases z : 0 < g 8
  · have tn : (J (g 8 - 1)).toInt = ((g 8 - 1).toNat : Nat) := by rw [J_toInt (by omega) (by omega)]; omega
    rw [if_pos ((J_lt (by decide) (by omega)).mpr z), if_pos z, r10, ← J_sub]
    simp only [Option.bind_some]
    rw [grd_true _ k1, grd_true _ (vin_of k1 tn (by omega)), clampT tn, gi_rw, (hi (g 8 - 1).toNat (by omega)).1]
  · rw [if_neg (fun w => z ((J_lt (by decide) (by omega)).mp w)), if_neg z]
theorem sg_append (hW : sgW S v b t p g) (h8 : 0 ≤ g 8 ∧ g 8 < 8) : ∃ v', F_sg_append b (J x) (J y) S v = some v' ∧ sgW S v' b (apT g x t) (apT g y p) (apG g) ∧ fri b 3 v v' ∧ rw v' b 8 = J (g 8 + 1) := by
  obtain ⟨⟨k0, k1, k2, r10, r11⟩, hg, hi⟩ := id hW
  have e8 : rw v b 8 = J (g 8) := hg 8 (by decide)
  have tn : (J (g 8)).toInt = ((g 8).toNat : Nat) := by rw [J_toInt (by omega) (by omega)]; omega
  have n1 : b ≠ b + 1 := by omega
  have n2 : b ≠ b + 2 := by omega
  have n3 : b + 2 ≠ b + 1 := by omega
  have n4 : b + 1 ≠ b := by omega
  have n5 : b + 2 ≠ b := by omega
  have n6 : b + 1 ≠ b + 2 := by omega
  obtain ⟨f1, hf1⟩ : ∃ f1, f1 = up (rw v (b + 1)) (g 8).toNat (J x) := ⟨_, rfl⟩
  obtain ⟨f2, hf2⟩ : ∃ f2, f2 = up (rw v (b + 2)) (g 8).toNat (J y) := ⟨_, rfl⟩
  refine ⟨wr (wr (wr v (b + 1) f1) (b + 2) f2) b (up (rw v b) 8 (J (g 8 + 1))), ?_, ⟨⟨k0, k1, k2, r10, r11⟩, ?_, fun i hi' => ?_⟩, ?_, ?_⟩
  · unfold F_sg_append
    rw [grd_true _ k0, gi_rw, e8, if_pos ((J_lt (by omega) (by decide)).mpr h8.2), r10]
    simp only [Option.bind_some]
    rw [grd_true _ k1, grd_true _ (vin_of k1 tn (by omega)), clampT tn, r11]
    simp only [lt_def, si_wr, Option.bind_some, gi_x, rw_wr_ne n1, e8]
    rw [grd_true _ k2, grd_true _ (vin_of k2 tn (by omega)), clampT tn, rw_wr_ne n3, ← hf1, ← hf2]
    simp only [rw_wr_ne n2, rw_wr_ne n1, e8]
    rw [← J_add]
  · rw [rw_wr]
    exact ag_up hg
  · rw [rw_wr_ne n4, rw_wr_ne n6, rw_wr, rw_wr_ne n5, rw_wr, hf1, hf2]
    have hi8 : (i : Int) < g 8 + 1 := hi'
    unfold apT
    by_cases z : (i : Int) = g 8
    · have ei : i = (g 8).toNat := by omega
      rw [if_pos z, if_pos z, ei, up_same, up_same]
      exact ⟨rfl, rfl⟩
    · rw [if_neg z, if_neg z, up_ne (by omega), up_ne (by omega)]
      exact hi i (by omega)
  · exact fri_tr (fri_tr (fri_wr (by omega)) (fri_wr (by omega))) (fri_wr (by omega))
  · rw [rw_wr, up_same]
-- the model's
end ADDSEG

/-! The text that is read: numbers with signs, the clock. -/
section CLOCKS
variable {S : shp} {v w : vl} {a m N n : Nat} {B : Nat → Int} {z : Nat → Int} {R0 R Q : Nat → Int32} {ln : Nat → Nat} {W : Nat → Nat → Int} {h c g t p : Nat → Int} {M : Nat → Nat → Int}
-- the draft
theorem stD_lo {b x : Nat} {f : Nat → Int32} {s : sta} (h : stD S v b s) (hx : x < b) : stD S (wr v x f) b s := by
  obtain ⟨l, hh, hc, hW⟩ := h
  exact ⟨l, by rw [rw_wr_ne (by omega)]; exact hh, by rw [rw_wr_ne (by omega)]; exact hc, sgW_ne hW (by omega)⟩
-- the clock
end CLOCKS

/-! The text that is read: the statements. -/
section STMTS
variable {S : shp} {v w : vl} {a m N n : Nat} {B : Nat → Int} {z : Nat → Int} {R0 R Q : Nat → Int32} {ln : Nat → Nat} {W : Nat → Nat → Int} {s : sta}
theorem tPs_wr {f : Nat → Int32} {x : Nat} (hT : tPs S v a) (hx : a ≤ x ∧ x < a + 84) : tPs S (wr v x f) a := by
  obtain ⟨t1, t2, t3⟩ := hT
  exact ⟨t1, t2, fun i hi => by rw [rw_wr_ne (by omega)]; exact t3 i hi⟩
end STMTS

/-! The text that is read: all of it. -/
section LOADS
variable {S : shp} {v w : vl} {a m N n : Nat} {B : Nat → Int} {z : Nat → Int} {R0 R Q : Nat → Int32} {ln : Nat → Nat} {W : Nat → Nat → Int} {s : sta}
theorem tPs_fri {v' : vl} {b k : Nat} (hT : tPs S v a) (hf : fri b k v v') (hb : a ≤ b ∧ b + k ≤ a + 84) : tPs S v' a := by
  obtain ⟨t1, t2, t3⟩ := hT
  exact ⟨t1, t2, fun i hi => by rw [hf.2 _ (by omega)]; exact t3 i hi⟩
/-- the class stops behind a fault -/
theorem tx_stop {F q : Nat} {x : Int} (hL : gcL S a) (hx : x = 0) : K_tx_read_65 N (F + 1) S v (a + 1) (J x) (J (q : Int)) = some (J 0, v) := by
  subst hx
  show Y_tx_read_65 N (K_tx_read_65 N F S) S v (a + 1) (J 0) (J (q : Int)) = _
  unfold Y_tx_read_65
  rw [grd_true _ hL.2.1.1, if_pos rfl, grd_true _ (by decide)]
  split <;> rfl
end LOADS

/-! The text that is read: the call on both sides. -/
section LOADB
variable {S S' : shp} {v w v' : vl} {a b m N n q : Nat} {B : Nat → Int} {z : Nat → Int} {R0 R Q : Nat → Int32} {ln : Nat → Nat} {W : Nat → Nat → Int} {s now : sta} {sv : Option sta} {ps : List sta} {re ca ch : Int}
-- the model's fresh row
-- frames
theorem exN_exi {k l : Nat} (h : exi b 6 k l S v S' v') (hb : a + 11 ≤ b ∧ b + 6 ≤ a + 84) : exN a k l S v S' v' := ⟨h.1, fun x hx hn => h.2.1 x (by omega) hn, h.2.2.1, h.2.2.2.1, h.2.2.2.2.1, h.2.2.2.2.2.1, h.2.2.2.2.2.2.1⟩
theorem exN_fri {k : Nat} (h : fri b k v v') (hb : a ≤ b ∧ b + k ≤ a + 9) : exN a 0 0 S v S v' := ⟨fun x _ => by rw [h.1], fun x hx _ => ⟨h.2 x (by omega), fun _ => rfl⟩, fun _ _ => rfl, rfl, rfl, ⟨Nat.le_refl _, Nat.le_refl _⟩, ⟨Nat.le_refl _, Nat.le_refl _⟩⟩
theorem exN_tr {k l k' l' : Nat} {S1 : shp} {v1 : vl} (h1 : exN a k l S v S1 v1) (h2 : exN a k' l' S1 v1 S' v') : exN a (k + k') (l + l') S v S' v' := by
  obtain ⟨a1, a2, a3, a4, a5, a6, a7⟩ := h1
  obtain ⟨b1, b2, b3, b4, b5, b6, b7⟩ := h2
  have hn : nxt S ≤ nxt S1 := by unfold nxt; rw [a5]; omega
  refine ⟨fun x hx => (b1 x (by omega)).trans (a1 x hx), fun x hx hxn => ?_, fun x hx => (b3 x (by omega)).trans (a3 x hx), b4.trans a4, b5.trans a5, by omega, by omega⟩
  obtain ⟨c1, c2⟩ := a2 x hx hxn
  obtain ⟨d1, d2⟩ := b2 x hx (by omega)
  exact ⟨d1.trans c1, fun j => (d2 j).trans (c2 j)⟩
-- the object, where the reader's rows move
end LOADB
