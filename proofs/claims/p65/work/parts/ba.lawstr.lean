/-! The law's text, told as a string. -/
section LAWSTR
variable {S S' : shp} {v v' : vl} {a b s q N j k l r len x : Nat} {L : List Int} {E : Nat → Nat → Prop}
theorem OL_mk (h : OL S v b L r len) (hm : mkG E x k l S v S' v') (hb : b < x) (hr : r < x) (hE : ∀ j, ¬ E b j) : OL S' v' b L r len := by
  obtain ⟨k0, ⟨c1, c3⟩, g0, kr, hb', hbt, ht⟩ := h
  unfold OL OC
  rw [(hm.1 b hb).1, (hm.1 b hb).2.1, hm.2.1 b 0 hb (hE 0), (hm.1 r hr).1, (hm.1 r hr).2.1]
  exact ⟨k0, ⟨c1, c3⟩, g0, kr, hb', hbt, ht⟩
theorem mkG_wr {y : Nat} {f : Nat → Int32} (hw : wfS S) (hy : x ≤ y) : mkG (fun _ _ => False) x 0 0 S v S (wr v y f) :=
  ⟨fun z hz => ⟨rfl, rw_wr_ne (by omega), rfl⟩, fun _ _ _ _ => rfl, rfl, rfl, rfl, rfl, hw⟩
theorem OL_lt (hw : wfS S) (h : OL S v b L r len) : b < nxt S ∧ r < nxt S := ⟨kin_lt hw h.1, kin_lt hw h.2.2.2.1⟩
/-- a string s with its array q -/
def STR (S : shp) (v : vl) (s q : Nat) (L : List Int) : Prop := kin S s = some (0, 8) ∧ rw v s 1 = J 0 ∧ gr S s 0 = some q ∧ kin S q = some (2, L.length) ∧ ∀ i, i < L.length → rw v q i &&& J 255 = J (asL L i)
theorem fit_b {R : Nat → Int32} {i : Nat} (h : bts R) : fits (aty 1) (Value.int (R i)) = true := by
  obtain ⟨y, e⟩ := h i
  rw [e]
  exact pk_fb y
/-- a copy of the first signs -/
theorem ar_copy (hw : wfS S) (kr : kin S r = some (2, len)) (hb : bts (rw v r)) (hl : l ≤ len) (hlen : len ≤ 142) : ∃ w, F_ar_copyOfRange r (J 0) (J (l : Int)) S v = some (some (nxt S), grow S (2, l) l, w) ∧ mkG (fun _ _ => False) (nxt S) 1 l S v (grow S (2, l) l) w ∧ ∀ i, i < l → rw w (nxt S) i = rw v r i := by
  have em : nI (alen S r) = J (len : Int) := by rw [alen_of kr]; rfl
  have nr := kin_lt hw kr
  have kr' : kin S r = some (2, alen S r) := by rw [alen_of kr]; exact kr
  have t0 : Int32.toNatClampNeg (J 0) = 0 := by decide
  have tl : Int32.toNatClampNeg (J (l : Int)) = l := clampT (J_toInt (by omega) (by omega))
  have nn : ∀ z : Nat, z ≤ 200 → ¬ J (z : Int) < 0 := fun z hz w => by have := (J_lt (x := (z : Int)) (y := 0) (by omega) (by decide)).mp w; omega
  have mg := mkG_grow (v := v) (k := l) (d := (2, l)) hw
  have cp : ∀ (S1 : shp) (u : vl), wfS S1 → mkG (fun _ _ => False) (nxt S) 0 0 S1 u S1 (cpy u r 0 (nxt S) 0 l) ∧ ∀ i, i < l → rw (cpy u r 0 (nxt S) 0 l) (nxt S) i = rw u r i := fun S1 u h1 => by
    rw [cpy_w]
    refine ⟨mkG_wr h1 (Nat.le_refl _), fun i hi => ?_⟩
    rw [rw_wr, if_pos ⟨Nat.zero_le _, by omega⟩, show 0 + (i - 0) = i by omega]
  obtain ⟨c1, c2⟩ := cp (grow S (2, l) l) (zero v (nxt S)) mg.2.2.2.2.2.2
  have M := mkG_tr (Nat.le_refl _) mg c1 (fun _ _ _ h => h)
  refine ⟨cpy (zero v (nxt S)) r 0 (nxt S) 0 l, ?_, M, fun i hi => by rw [c2 i hi, rw_zero (by omega)]⟩
  unfold F_ar_copyOfRange
  rw [if_pos rfl, grd_true _ ⟨2, len, kr, by decide⟩]
  by_cases z : J (l : Int) = nI (alen S r)
  · have e : l = len := by
      rw [em] at z
      have := (J_eq (by omega) (by omega)).mp z
      omega
    rw [if_pos z, grd_true _ kr', grd_true _ (show ∀ j, j < alen S r → fits FieldType.byte (Value.int (gi v r j)) = true from fun i _ => fit_b hb), grd_true _ (hw _ (Nat.le_refl _)), alen_of kr, ← e]
    rfl
  · have d0 : J (l : Int) - J 0 = J (l : Int) := by rw [← J_sub, Int.sub_zero]
    have dl : J (len : Int) - J 0 = J (len : Int) := by rw [← J_sub, Int.sub_zero]
    rw [if_neg z]
    unfold F_ar_copyOfRangeByte F_ar_checkLength
    rw [if_neg (show ¬ J (l : Int) < J 0 from nn l (by omega)), Option.bind_some, d0, grd_true _ (nn l (by omega)), tl, grd_true _ (show l ≤ 65536 by omega), grd_true _ (hw _ (Nat.le_refl _)), lt3_def]
    have k1 : kin (grow S (2, l) l) r = some (2, len) := by rw [kin_grow, if_neg (by omega)]; exact kr
    have k2 : kin (grow S (2, l) l) (nxt S) = some (2, l) := by rw [kin_grow, if_pos rfl]
    have em1 : nI (alen (grow S (2, l) l) r) = J (len : Int) := by rw [alen_of k1]; rfl
    rw [grd_true _ ⟨2, len, k1, by decide⟩, em1, dl]
    have mi : F_ma_min (J (len : Int)) (J (l : Int)) (grow S (2, l) l) (zero v (nxt S)) = some (J (l : Int)) := by
      unfold F_ma_min
      by_cases y : J (l : Int) < J (len : Int)
      · rw [if_pos y]
      · have : l = len := by
          by_cases y2 : l < len
          · exact absurd ((J_lt (by omega) (by omega)).mpr (by omega)) y
          · omega
        rw [if_neg y, this]
    rw [mi, Option.bind_some, t0, tl, grd_true _ (by rw [alen_of k1]; exact k1), grd_true _ ⟨⟨by decide, by decide, nn l (by omega)⟩, by rw [alen_of k1]; omega, by rw [alen_of k2]; omega, fun i _ => by
      rw [gi_rw, rw_zero (by omega)]
      exact fit_b hb⟩, lt_def, Option.bind_some]
    rfl
/-- the builder's text as a string -/
theorem sb_told (hw : wfS S) (hO : OL S v b L r len) : ∃ S' v', F_sb_toString b S v = some (some (nxt S), S', v') ∧ STR S' v' (nxt S) (nxt S + 1) L ∧ mkG (fun _ _ => False) (nxt S) 2 (4 + L.length) S v S' v' := by
  obtain ⟨nb, nr⟩ := OL_lt hw hO
  obtain ⟨S1, e1⟩ : ∃ S1, S1 = grow S (0, 8) (fTN 8).2.1 := ⟨_, rfl⟩
  obtain ⟨v1, ev1⟩ : ∃ v1, v1 = zero v (nxt S) := ⟨_, rfl⟩
  have m1 : mkG (fun _ _ => False) (nxt S) 1 4 S v S1 v1 := by
    rw [e1, ev1]
    exact mkG_grow hw
  have w1 : wfS S1 := m1.2.2.2.2.2.2
  have n1 : nxt S1 = nxt S + 1 := nxt_mk m1
  have ks : kin S1 (nxt S) = some (0, 8) := by rw [e1, kin_grow, if_pos rfl]
  have O1 : OL S1 v1 b L r len := OL_mk hO m1 nb nr (fun _ h => h)
  obtain ⟨v2, ev2⟩ : ∃ v2, v2 = si v1 (nxt S) 1 (J 0) := ⟨_, rfl⟩
  have m2 : mkG (fun _ _ => False) (nxt S) 0 0 S1 v1 S1 v2 := by rw [ev2, si_wr]; exact mkG_wr w1 (Nat.le_refl _)
  have O2 : OL S1 v2 b L r len := OL_mk O1 m2 nb nr (fun _ h => h)
  obtain ⟨w, c1, c2, c3⟩ := ar_copy (l := L.length) w1 O2.2.2.2.1 O2.2.2.2.2.2.1 O2.2.2.2.2.1.1 (by have := O2.2.2.2.2.1.2; omega)
  have w2 : wfS (grow S1 (2, L.length) L.length) := c2.2.2.2.2.2.2
  obtain ⟨S3, e3⟩ : ∃ S3, S3 = sr (grow S1 (2, L.length) L.length) (nxt S) 0 (some (nxt S1)) := ⟨_, rfl⟩
  have m3 : mkG (fun x j => x = nxt S ∧ j = 0) (nxt S + 2) 0 0 (grow S1 (2, L.length) L.length) w S3 w := by rw [e3]; exact mkG_sr w2
  have M := mkG_tr (Nat.le_refl _) (mkG_tr (Nat.le_refl _) (mkG_tr (Nat.le_refl _) m1 m2 (fun _ _ _ h => h)) (mkG_dn c2 (by omega) (fun _ _ _ h => h)) (fun _ _ _ h => h)) (mkG_dn m3 (by omega) (fun x j hx q => by omega)) (fun _ _ _ h => h)
  refine ⟨S3, w, ?_, ⟨?_, ?_, ?_, ?_, fun i hi => ?_⟩, by
    have e : 4 + 0 + L.length + 0 = 4 + L.length := by omega
    rw [e] at M
    exact M⟩
  · have kb := O1.1
    have len1 : F_sb_length b S1 v1 = some (J (L.length : Int)) := by
      unfold F_sb_length F_ab_length
      rw [grd_true _ kb, grd_true _ kb, gi_rw, O1.2.1.2]
      rfl
    have val1 : F_ab_getValue b S1 v1 = some (some r) := by
      unfold F_ab_getValue
      rw [grd_true _ kb, O1.2.2.1]
      rfl
    unfold F_sb_toString
    rw [grd_true _ (hw _ (Nat.le_refl _)), lt3_def, ← e1, ← ev1]
    unfold F_js_init F_js_init2
    rw [grd_true _ kb, val1, Option.bind_some, oc2_s, len1, Option.bind_some, ab_latin O1, Option.bind_some, if_neg (by decide), grd_true _ ks, lt_def, ← ev2, c1, Option.bind_some]
    simp only [oc2_s, lt_def, Option.bind_some]
    rw [← e3]
  · rw [(m3.1 (nxt S) (by omega)).1, (c2.1 (nxt S) (by omega)).1]; exact ks
  · rw [(c2.1 (nxt S) (by omega)).2.1, ev2, si_wr, rw_wr, up_same]
  · rw [e3, gr_sr, if_pos ⟨rfl, rfl⟩, n1]
  · rw [(m3.1 (nxt S + 1) (by omega)).1, kin_grow, if_pos n1.symm]
  · rw [← n1, c3 i hi]
    exact O2.2.2.2.2.2.2 i hi
end LAWSTR
