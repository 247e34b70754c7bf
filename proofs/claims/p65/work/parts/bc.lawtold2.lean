/-! The law's text goes to the class, in chunks. -/
section LAWTOLD2
variable {S S' S0 : shp} {v v' v0 : vl} {a s q N j k l r len x n : Nat} {L : List Int} {T : Nat → Int} {c : Nat → Nat}
theorem J_div {y m : Int} (hy : 0 ≤ y ∧ y < 2147483648) (hm : 1 ≤ m ∧ m ≤ 1000) : J y / (J m) = J (y / m) := by
  have e1 : (J y).toInt = y := J_toInt (by omega) (by omega)
  have e2 : (J m).toInt = m := J_toInt (by omega) (by omega)
  have hq0 := Int.ediv_nonneg hy.1 (show 0 ≤ m by omega)
  have hq1 : y / m ≤ y := Int.ediv_le_self m hy.1
  refine i_eq.mpr ?_
  rw [i_div (by rw [e2]; omega), e1, e2, Int.tdiv_eq_ediv_of_nonneg hy.1, J_toInt (by omega) (by omega)]
/-- the signs that are told: behind the text, spaces -/
def tsZ (L : List Int) (i : Nat) : Int := if i < L.length then asL L i else 32
theorem tsZ_B (hA : ascL L) (i : Nat) : 0 ≤ tsZ L i ∧ tsZ L i < 128 := by
  unfold tsZ
  split
  · rename_i h
    exact hA _ (asL_m h)
  · decide
theorem wv_B {m t : Nat} (hc : ∀ i, c i < 128) (ht : t ≤ 3) : wv c m t < 8388608 := by
  have h0 := hc (4 * m)
  have h1 := hc (4 * m + 1)
  have h2 := hc (4 * m + 2)
  have e1 : wv c m 1 = 0 * 256 + c (4 * m) := rfl
  have e2 : wv c m 2 = wv c m 1 * 256 + c (4 * m + 1) := rfl
  have e3 : wv c m 3 = wv c m 2 * 256 + c (4 * m + 2) := rfl
  have e0 : wv c m 0 = 0 := rfl
  have : t = 0 ∨ t = 1 ∨ t = 2 ∨ t = 3 := by omega
  rcases this with z | z | z | z <;> subst z <;> omega
theorem STR_wr {f : Nat → Int32} (h : STR S v s q L) (h1 : x ≠ s) (h2 : x ≠ q) : STR S (wr v x f) s q L := by
  obtain ⟨a1, a2, a3, a4, a5⟩ := h
  exact ⟨a1, by rw [rw_wr_ne (Ne.symm h1)]; exact a2, a3, a4, fun i hi => by rw [rw_wr_ne (Ne.symm h2)]; exact a5 i hi⟩
/-- the object's reader takes twenty signs -/
theorem gc_append (hN : 100 ≤ N) (hL : gcL S a) (hC : CB v a n T) (h1 : rw v (a + 1) 1 = J (n : Int)) (hn : n + 20 ≤ 500) (hc : ∀ i, c i < 128) (hT : ∀ i, i < 20 → T (n + i) = (c i : Nat)) :
    ∃ y v', F_gc_appendInput N a (J (wv c 0 4 : Nat)) (J (wv c 1 4 : Nat)) (J (wv c 2 4 : Nat)) (J (wv c 3 4 : Nat)) (J (wv c 4 4 : Nat)) S v = some (y, v') ∧ CB v' a (n + 20) T ∧ rw v' (a + 1) = up (rw v (a + 1)) 1 (J ((n + 20 : Nat) : Int)) ∧ fri (a + 1) 2 v v' := by
  obtain ⟨v1, a1, a2, a3, a4⟩ := word_ok (m := 0) (n := n) hN hL hC h1 (by omega) hc (fun i hi => by rw [hT i (by omega)]; congr 2; omega)
  obtain ⟨v2, b1, b2, b3, b4⟩ := word_ok (m := 1) (n := n + 4) hN hL a2 (by rw [a3, up_same]) (by omega) hc (fun i hi => by rw [show n + 4 + i = n + (4 * 1 + i) by omega]; exact hT _ (by omega))
  obtain ⟨v3, c1, c2, c3, c4⟩ := word_ok (m := 2) (n := n + 4 + 4) hN hL b2 (by rw [b3, up_same]) (by omega) hc (fun i hi => by rw [show n + 4 + 4 + i = n + (4 * 2 + i) by omega]; exact hT _ (by omega))
  obtain ⟨v4, d1, d2, d3, d4⟩ := word_ok (m := 3) (n := n + 4 + 4 + 4) hN hL c2 (by rw [c3, up_same]) (by omega) hc (fun i hi => by rw [show n + 4 + 4 + 4 + i = n + (4 * 3 + i) by omega]; exact hT _ (by omega))
  obtain ⟨v5, e1, e2, e3, e4⟩ := word_ok (m := 4) (n := n + 4 + 4 + 4 + 4) hN hL d2 (by rw [d3, up_same]) (by omega) hc (fun i hi => by rw [show n + 4 + 4 + 4 + 4 + i = n + (4 * 4 + i) by omega]; exact hT _ (by omega))
  rw [show n + 4 + 4 + 4 + 4 + 4 = n + 20 by omega] at e2 e3
  refine ⟨gi v5 (a + 1) 1, v5, ?_, e2, by rw [e3, d3, c3, b3, a3, up_up, up_up, up_up, up_up], fri_tr (fri_tr (fri_tr (fri_tr a4 b4) c4) d4) e4⟩
  obtain ⟨⟨k0, g0, -⟩, ⟨k1, -⟩, -⟩ := id hL
  unfold F_gc_appendInput
  rw [grd_true _ k0, g0, Option.bind_some, grd_true _ k1, gi_rw, h1, ← J_add, if_neg (fun y => by have := (J_lt (by decide) (by omega)).mp y; omega), a1, Option.bind_some, b1, Option.bind_some, c1, Option.bind_some, d1, Option.bind_some, e1, Option.bind_some]
theorem told17 {i2 : shp → vl → Nat → Nat → Int32 → Option (shp × vl)} {u : vl} (hS : STR S u s q L) (hl : L.length ≤ 200) (hA : ascL L) (hx : kin S x = some (1, 5)) (hxs : x ≠ s) (hxq : x ≠ q) (ka : kin S a = some (0, 5)) (hk : k ≤ 200) (hc : ∀ i, c i = (tsZ L (k + i)).toNat) :
    ∀ (d i F : Nat), i + d = 20 → d < F → K_lw_told_17 N i2 F S (wr u x (RR c i)) a s (J (k : Int)) x (J (i : Int)) = (F_gc_appendInput N a (J (wv c 0 4 : Nat)) (J (wv c 1 4 : Nat)) (J (wv c 2 4 : Nat)) (J (wv c 3 4 : Nat)) (J (wv c 4 4 : Nat)) S (wr u x (RR c 20))).bind fun p => i2 S p.2 a s (J (k : Int) + J 20)
  | _, _, 0, _, h => absurd h (Nat.not_lt_zero _)
  | 0, i, F + 1, hi, _ => by
    have ei : i = 20 := by omega
    subst ei
    have hx' : kin S x = some (1, alen S x) := by rw [alen_of hx]; exact hx
    show Y_lw_told_17 N i2 (K_lw_told_17 N i2 F) S (wr u x (RR c 20)) a s _ x _ = _
    unfold Y_lw_told_17
    rw [if_neg (by decide), grd_true _ (Or.inl hx'), grd_true _ (vin_of (k := 0) hx (by decide) (by decide)), grd_true _ (vin_of (k := 1) hx (by decide) (by decide)), grd_true _ (vin_of (k := 2) hx (by decide) (by decide)), grd_true _ (vin_of (k := 3) hx (by decide) (by decide)), grd_true _ (vin_of (k := 4) hx (by decide) (by decide)), grd_true _ ka]
    simp only [gi_rw, rw_wr]
    rfl
  | d + 1, i, F + 1, hi, hF => by
    have hx' : kin S x = some (1, alen S x) := by rw [alen_of hx]; exact hx
    have hc' : ∀ i, c i < 128 := fun i => by rw [hc i]; have := tsZ_B hA (k + i); omega
    obtain ⟨m, t, hm, ht⟩ : ∃ m t, i = 4 * m + t ∧ t < 4 := ⟨i / 4, i % 4, by omega, by omega⟩
    have em : J (i : Int) / J 4 = J (m : Int) := by
      rw [J_div (y := (i : Int)) (m := 4) (by omega) (by decide)]
      congr 1
      omega
    have tm : (J (m : Int)).toInt = ((m : Nat) : Int) := J_toInt (by omega) (by omega)
    have hS1 := STR_wr (f := RR c i) hS hxs hxq
    have r0 : RR c i m = J (wv c m t : Nat) := by
      unfold RR
      rw [show min 4 (i - 4 * m) = t by omega]
    have ec : c i = (tsZ L (k + i)).toNat := hc i
    have tz := tsZ_B hA (k + i)
    have w1 := wv_B (m := m) (t := t) hc' (by omega)
    have sg : (J (wv c m t : Nat) <<< (J 8 &&& 31)) ||| J (tsZ L (k + i)) = J (wv c m (t + 1) : Nat) := by
      have e : tsZ L (k + i) = ((c (4 * m + t) : Nat) : Int) := by rw [← hm, ec]; omega
      rw [e, sh8 w1 (by have := hc' (4 * m + t); omega)]
      rfl
    have ih := told17 (i2 := i2) hS hl hA hx hxs hxq ka hk hc d (i + 1) F (by omega) (by omega)
    have st : wr (wr u x (RR c i)) x (up (RR c i) m (J (wv c m (t + 1) : Nat))) = wr u x (RR c (i + 1)) := by
      rw [wr_wr, hm, RR_s ht]
    show Y_lw_told_17 N i2 (K_lw_told_17 N i2 F) S (wr u x (RR c i)) a s _ x _ = _
    unfold Y_lw_told_17
    rw [if_pos ((J_lt (by omega) (by decide)).mpr (by omega)), grd_true _ (Or.inl hx'), em, grd_true _ (vin_of hx tm (by omega)), clampT tm, gi_rw, rw_wr, r0, lt_def, grd_true _ hS1.1, st_len hS1 hl, Option.bind_some, ← J_add, ← Int.natCast_add]
    by_cases z : k + i < L.length
    · have e : tsZ L (k + i) = asL L (k + i) := if_pos z
      rw [if_pos ((J_lt (by omega) (by omega)).mpr (by omega)), st_char hS1 hl hA z, Option.bind_some, grd_true _ hx', lt_def, ← e, sg, si_wr, rw_wr, st, J_s]
      exact ih
    · have e : tsZ L (k + i) = 32 := if_neg z
      rw [e] at sg
      rw [if_neg (fun y => by have := (J_lt (by omega) (by omega)).mp y; omega), grd_true _ hx', lt_def, sg, si_wr, rw_wr, st, J_s]
      exact ih
/-- what stays while it is told -/
def tfr (a : Nat) (S0 : shp) (v0 : vl) (S : shp) (v : vl) (k : Nat) : Prop := (∀ x, x < nxt S0 → (x ≠ a + 1 → x ≠ a + 2 → rw v x = rw v0 x) ∧ v.2 x = v0.2 x ∧ kin S x = kin S0 x ∧ ∀ j, gr S x j = gr S0 x j) ∧ (kad S = kad S0 ∧ bas S = bas S0) ∧ cn S = cn S0 + k ∧ cz S = cz S0 + 5 * k
theorem told_end {F : Nat} (hl : L.length ≤ 140) (hn : n < 200) (hd : L.length ≤ n) (hw : wfS S) (hL : gcL S a) (hS : STR S v s q L) (hA : ascL L) (hC : CB v a n (tsZ L)) (h1 : rw v (a + 1) = up (rw v0 (a + 1)) 1 (J (n : Int))) (t : tfr a S0 v0 S v k) : ∃ S' v', K_lw_told_2 N (F + 1) S v a s (J (n : Int)) = some (S', v') ∧ wfS S' ∧ gcL S' a ∧ CB v' a L.length (asL L) ∧ rw v' (a + 1) = up (rw v0 (a + 1)) 1 (J (L.length : Int)) ∧ tfr a S0 v0 S' v' k := by
  obtain ⟨⟨k0, g0, -⟩, ⟨k1, -⟩, -⟩ := id hL
  obtain ⟨c1, c2, c3⟩ := hC
  obtain ⟨t1, t2⟩ := t
  have ets : ∀ i, i < L.length → tsZ L i = asL L i := fun i hi => if_pos hi
  refine ⟨S, wr v (a + 1) (up (rw v (a + 1)) 1 (J (L.length : Int))), ?_, hw, hL, ⟨by omega, fun i hi => by rw [← ets i hi]; exact c2 i (by omega), fun i hi => by rw [← ets i hi, rw_wr_ne (by omega)]; exact c3 i (by omega)⟩, by rw [rw_wr, h1, up_up], ⟨fun x hx => ?_, t2⟩⟩
  · show Y_lw_told_2 N (K_lw_told_2 N F) S v a s _ = _
    unfold Y_lw_told_2
    rw [grd_true _ hS.1, st_len hS (by omega), Option.bind_some, if_neg (fun y => by have := (J_lt (by omega) (by omega)).mp y; omega), Option.bind_some, grd_true _ k0]
    unfold F_gc_truncateInput
    rw [if_neg (fun y => by have := (J_lt (by omega) (by decide)).mp y; omega), grd_true _ k0, g0, Option.bind_some, grd_true _ k1, gi_rw, h1, up_same, if_neg (fun y => by have := (J_lt (by omega) (by omega)).mp y; omega), lt_def, Option.bind_some, si_wr, h1]
  · obtain ⟨y1, y2, y3, y4⟩ := t1 x hx
    exact ⟨fun z1 z2 => by rw [rw_wr_ne z1]; exact y1 z1 z2, y2, y3, y4⟩
theorem told2 (hN : 100 ≤ N) (hl : L.length ≤ 140) (hA : ascL L) (hs : s < nxt S0 ∧ q < nxt S0 ∧ a + 3 ≤ nxt S0) (hsa : (s ≠ a + 1 ∧ s ≠ a + 2) ∧ q ≠ a + 1 ∧ q ≠ a + 2) : ∀ (d n F : Nat) (S : shp) (v : vl), n < L.length + 20 → L.length ≤ n + 20 * d → d < F → wfS S → gcL S a → STR S v s q L → CB v a n (tsZ L) → rw v (a + 1) = up (rw v0 (a + 1)) 1 (J (n : Int)) → (∃ k, tfr a S0 v0 S v k ∧ 20 * k = n) →
    ∃ S' v' k, K_lw_told_2 N F S v a s (J (n : Int)) = some (S', v') ∧ wfS S' ∧ gcL S' a ∧ CB v' a L.length (asL L) ∧ rw v' (a + 1) = up (rw v0 (a + 1)) 1 (J (L.length : Int)) ∧ tfr a S0 v0 S' v' k ∧ 20 * k < L.length + 20
  | _, _, 0, _, _, _, _, h, _, _, _, _, _, _ => absurd h (Nat.not_lt_zero _)
  | 0, n, F + 1, S, v, hn, hd, hF, hw, hL, hS, hC, h1, ⟨k, t, hk⟩ => by
    obtain ⟨S', v', e1, e2, e3, e4, e5, e6⟩ := told_end (N := N) (F := F) hl (by omega) (by omega) hw hL hS hA hC h1 t
    exact ⟨S', v', k, e1, e2, e3, e4, e5, e6, by omega⟩
  | d + 1, n, F + 1, S, v, hn, hd, hF, hw, hL, hS, hC, h1, ⟨k, t, hk⟩ => by
    by_cases z : L.length ≤ n
    · obtain ⟨S', v', e1, e2, e3, e4, e5, e6⟩ := told_end (N := N) (F := F) hl (by omega) z hw hL hS hA hC h1 t
      exact ⟨S', v', k, e1, e2, e3, e4, e5, e6, by omega⟩
    · obtain ⟨x, ex⟩ : ∃ x, x = nxt S := ⟨_, rfl⟩
      obtain ⟨S1, e1⟩ : ∃ S1, S1 = grow S (1, 5) 5 := ⟨_, rfl⟩
      obtain ⟨u, eu⟩ : ∃ u, u = zero v x := ⟨_, rfl⟩
      obtain ⟨c, ec⟩ : ∃ c : Nat → Nat, c = fun i => (tsZ L (n + i)).toNat := ⟨_, rfl⟩
      have hci : ∀ i, c i = (tsZ L (n + i)).toNat := fun i => by rw [ec]
      have hc : ∀ i, c i < 128 := fun i => by rw [hci i]; have := tsZ_B hA (n + i); omega
      have mg : mkG (fun _ _ => False) x 1 5 S v S1 u := by rw [e1, eu, ex]; exact mkG_grow hw
      have w1 : wfS S1 := mg.2.2.2.2.2.2
      have L1 : gcL S1 a := by rw [e1]; exact gcL_grow hL hw
      have n84 : a + 3 ≤ x := by
        have := kin_lt hw hL.2.1.2.2.1
        omega
      have ns : s < x := by rw [ex]; exact kin_lt hw hS.1
      have nq : q < x := by rw [ex]; exact kin_lt hw hS.2.2.2.1
      have kx : kin S1 x = some (1, 5) := by rw [e1, kin_grow, if_pos ex]
      have S1s : STR S1 u s q L := by
        obtain ⟨a1, a2, a3, a4, a5⟩ := hS
        exact ⟨by rw [(mg.1 s ns).1]; exact a1, by rw [(mg.1 s ns).2.1]; exact a2, by rw [mg.2.1 s 0 ns (fun h => h)]; exact a3, by rw [(mg.1 q nq).1]; exact a4, fun i hi => by rw [(mg.1 q nq).2.1]; exact a5 i hi⟩
      have r0 : wr u x (RR c 0) = u := by
        have : rw u x = RR c 0 := by
          rw [eu, rw_zero0]
          funext m
          unfold RR
          rw [show min 4 (0 - 4 * m) = 0 by omega]
          rfl
        rw [← this]
        exact wr_self
      have t17 := told17 (N := N) (i2 := K_lw_told_2 N F) (S := S1) (u := u) (a := a) (x := x) (k := n) S1s (by omega) hA kx (by omega) (by omega) L1.1.1 (by omega) hci 20 0 N rfl (by omega)
      rw [r0] at t17
      have hC1 : CB (wr u x (RR c 20)) a n (tsZ L) := by
        obtain ⟨c1, c2, c3⟩ := hC
        exact ⟨c1, c2, fun i hi => by rw [rw_wr_ne (by omega), eu, rw_zero (by omega)]; exact c3 i hi⟩
      have ra : rw (wr u x (RR c 20)) (a + 1) = rw v (a + 1) := by rw [rw_wr_ne (by omega), eu, rw_zero (by omega)]
      obtain ⟨y, v2, f1, f2, f3, f4⟩ := gc_append (v := wr u x (RR c 20)) hN L1 hC1 (by rw [ra, h1, up_same]) (by omega) hc (fun i hi => by rw [hci i]; have := tsZ_B hA (n + i); omega)
      rw [ra, h1, up_up] at f3
      have rest : ∀ b, b < x → b ≠ a + 1 → b ≠ a + 2 → rw v2 b = rw v b := fun b hb h1 h2 => by
        rw [f4.2 b (by omega), rw_wr_ne (by omega), eu, rw_zero (by omega)]
      have S2s : STR S1 v2 s q L := by
        obtain ⟨a1, a2, a3, a4, a5⟩ := S1s
        have us : rw v2 s = rw u s := by rw [f4.2 s (by omega), rw_wr_ne (by omega)]
        have uq : rw v2 q = rw u q := by rw [f4.2 q (by omega), rw_wr_ne (by omega)]
        exact ⟨a1, by rw [us]; exact a2, a3, a4, fun i hi => by rw [uq]; exact a5 i hi⟩
      obtain ⟨t1, ⟨t2, t3⟩, t4, t5⟩ := t
      have hnx : nxt S0 ≤ x := by
        rw [ex]
        unfold nxt
        omega
      have T1 : tfr a S0 v0 S1 v2 (k + 1) := by
        refine ⟨fun b hb => ?_, ⟨mg.2.2.1.trans t2, mg.2.2.2.1.trans t3⟩, by rw [mg.2.2.2.2.1, t4]; omega, by rw [mg.2.2.2.2.2.1, t5]; omega⟩
        obtain ⟨y1, y2, y3, y4⟩ := t1 b hb
        refine ⟨fun z1 z2 => (rest b (by omega) z1 z2).trans (y1 z1 z2), ?_, (mg.1 b (by omega)).1.trans y3, fun j => (mg.2.1 b j (by omega) (fun h => h)).trans (y4 j)⟩
        rw [f4.1]
        exact (mg.1 b (by omega)).2.2.trans y2
      obtain ⟨S', v', k', g1, g2⟩ := told2 hN hl hA hs hsa d (n + 20) F S1 v2 (by omega) (by omega) (by omega) w1 L1 S2s f2 f3 ⟨k + 1, T1, by omega⟩
      refine ⟨S', v', k', ?_, g2⟩
      show Y_lw_told_2 N (K_lw_told_2 N F) S v a s _ = _
      unfold Y_lw_told_2
      rw [grd_true _ hS.1, st_len hS (by omega), Option.bind_some, if_pos ((J_lt (by omega) (by omega)).mpr (by omega)), grd_true _ (hw _ (Nat.le_refl _)), lt3_def, ← ex, ← e1, ← eu]
      have t17' : K_lw_told_17 N (K_lw_told_2 N F) N S1 u a s (J (n : Int)) x (J 0) = _ := t17
      rw [t17', f1, Option.bind_some]
      rw [show J (n : Int) + J 20 = J ((n + 20 : Nat) : Int) from (J_add _ _).symm]
      exact g1
/-- the text is told -/
theorem told_ok (hN : 100 ≤ N) (hw : wfS S) (hL : gcL S a) (hS : STR S v s q L) (hl : L.length ≤ 140) (hA : ascL L) (hsa : (s ≠ a + 1 ∧ s ≠ a + 2) ∧ q ≠ a + 1 ∧ q ≠ a + 2) (h1 : rw v (a + 1) 1 = 0) : ∃ S' v' k, F_lw_told N a s S v = some (S', v') ∧ wfS S' ∧ gcL S' a ∧ CB v' a L.length (asL L) ∧ rw v' (a + 1) = up (rw v (a + 1)) 1 (J (L.length : Int)) ∧ tfr a S v S' v' k ∧ k ≤ 7 := by
  have z0 : (0 : Int32) = J ((0 : Nat) : Int) := by decide
  have e0 : rw v (a + 1) = up (rw v (a + 1)) 1 (J ((0 : Nat) : Int)) := (up_id (by rw [h1]; exact z0)).symm
  obtain ⟨S', v', k, f1, f2, f3, f4, f5, f6, f7⟩ := told2 (N := N) (v0 := v) (S0 := S) hN hl hA ⟨kin_lt hw hS.1, kin_lt hw hS.2.2.2.1, by have := kin_lt hw hL.2.1.2.2.1; omega⟩ hsa 7 0 N S v (by omega) (by omega) (by omega) hw hL hS ⟨by decide, fun i hi => absurd hi (Nat.not_lt_zero _), fun i hi => absurd hi (Nat.not_lt_zero _)⟩ e0 ⟨0, ⟨fun x _ => ⟨fun _ _ => rfl, rfl, rfl, fun _ => rfl⟩, ⟨rfl, rfl⟩, rfl, rfl⟩, rfl⟩
  exact ⟨S', v', k, f1, f2, f3, f4, f5, f6, by omega⟩
end LAWTOLD2
