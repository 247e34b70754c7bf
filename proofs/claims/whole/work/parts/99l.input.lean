/-! The text that is read: what is appended, cut off; the last fault. -/
section INPUTS
variable {S S' : shp} {v w v' : vl} {a m N n : Nat} {B : Nat → Int} {b : Int32}
/-- pasted from the kit's laws (BITS) -/
theorem bp_b (x : Int32) : x.toInt8.toInt32 &&& 255 = x &&& 255 := by
  apply Int32.toBitVec_inj.mp
  rw [Int32.toBitVec_and, Int32.toBitVec_and, Int8.toBitVec_toInt32, Int32.toBitVec_toInt8]
  apply BitVec.eq_of_getLsbD_eq
  intro i hi
  rw [BitVec.getLsbD_and, BitVec.getLsbD_and]
  have hm : ∀ i < 32, 8 ≤ i → (255 : Int32).toBitVec.getLsbD i = false := by decide
  rcases Nat.lt_or_ge i 8 with z | z
  · rw [BitVec.getLsbD_signExtend, BitVec.getLsbD_signExtend, if_pos z, if_pos hi]
    simp only [z, hi, decide_true, Bool.true_and]
  · rw [hm i hi z]; simp
theorem j255 : J 255 = 255 := rfl
theorem by_8 (x : Int32) : Int8.toInt32 (Int32.toInt8 (Int8.toInt32 (Int32.toInt8 x))) &&& J 255 = x &&& J 255 := by
  rw [j255]
  exact (bp_b _).trans (bp_b x)
theorem b255 (x : Int32) : 0 ≤ (x &&& J 255).toInt ∧ (x &&& J 255).toInt ≤ 255 := by
  have c : (x &&& J 255).toInt = if 2 * (x &&& J 255).toBitVec.toNat < 4294967296 then ((x &&& J 255).toBitVec.toNat : Int) else ((x &&& J 255).toBitVec.toNat : Int) - 4294967296 := BitVec.toInt_eq_toNat_cond _
  have e : (J 255).toBitVec.toNat = 255 := by decide
  have l : (x &&& J 255).toBitVec.toNat ≤ 255 := by
    rw [Int32.toBitVec_and, BitVec.toNat_and, e]
    exact Nat.and_le_right
  rw [if_pos (by omega)] at c
  omega
def by4 (b : Int32) (p : Int) : Int := ((b >>> (J p &&& 31)) &&& J 255).toInt
theorem by4_J {p : Int} : (b >>> (J p &&& 31)) &&& J 255 = J (by4 b p) := (J_of _).symm
def put1 (B : Nat → Int) (n : Nat) (x : Int) : Nat → Int := fun i => if i = n then x else B i
theorem put1_B {x : Int} (hB : ∀ j, j < n → 0 ≤ B j ∧ B j ≤ 255) (hx : 0 ≤ x ∧ x ≤ 255) : ∀ j, j < n + 1 → 0 ≤ put1 B n x j ∧ put1 B n x j ≤ 255 := by
  intro j hj
  unfold put1
  by_cases z : j = n
  · rw [if_pos z]; exact hx
  · rw [if_neg z]; exact hB j (by omega)
theorem tx_put {p : Int} {F : Nat} (hp : 0 ≤ p ∧ p ≤ 24) (hL : gcL S a) (hC : CB v a n B) (h1 : rw v (a + 1) 1 = J (n : Int)) (hn : n < 500) :
    ∃ v', K_tx_append_3 N (F + 1) S v (a + 1) b (J p) = K_tx_append_3 N F S v' (a + 1) b (J (p + -8)) ∧ CB v' a (n + 1) (put1 B n (by4 b p)) ∧ rw v' (a + 1) = up (rw v (a + 1)) 1 (J ((n + 1 : Nat) : Int)) ∧ fri (a + 1) 2 v v' := by
  obtain ⟨c1, c2, c3⟩ := hC
  obtain ⟨-, ⟨k1, g1, k2, g4⟩, -⟩ := hL
  have tn : (J (n : Int)).toInt = (n : Int) := J_toInt (by omega) (by omega)
  have ne1 : a + 1 ≠ a + 2 := by omega
  have e5 : nI (alen S (a + 2)) = J 500 := by rw [alen_of k2]; rfl
  obtain ⟨x8, ex8⟩ : ∃ x8, x8 = Int8.toInt32 (Int32.toInt8 (Int8.toInt32 (Int32.toInt8 (b >>> (J p &&& 31))))) := ⟨_, rfl⟩
  have e8 : x8 &&& J 255 = J (by4 b p) := by rw [ex8, by_8]; exact by4_J
  refine ⟨wr (wr v (a + 2) (up (rw v (a + 2)) n x8)) (a + 1) (up (rw v (a + 1)) 1 (J ((n + 1 : Nat) : Int))), ?_, ⟨by omega, put1_B c2 (b255 _), fun i hi => ?_⟩, rw_wr, fri_tr (fri_wr (by omega)) (fri_wr (by omega))⟩
  · show Y_tx_append_3 N (K_tx_append_3 N F S) S v (a + 1) b (J p) = _
    unfold Y_tx_append_3
    rw [if_neg (fun y => by have := (J_lt (by omega) (by decide)).mp y; omega), grd_true _ k1, g1]
    simp only [Option.bind_some]
    rw [grd_true _ k2, gi_rw, h1, e5, if_pos ((J_lt (by omega) (by decide)).mpr (by omega)), grd_true _ (vin_of k2 tn hn), clampT tn, ← ex8]
    simp only [lt_def, si_wr, gi_x, rw_wr_ne ne1, h1]
    rw [J_s, ← J_add]
  · rw [rw_wr_ne (by omega), rw_wr]
    unfold put1
    by_cases z : i = n
    · rw [z, up_same, if_pos rfl, e8]
    · rw [up_ne z, if_neg z]
      exact c3 i (by omega)
theorem gm_put {p : Int} {F : Nat} (hp : 0 ≤ p ∧ p ≤ 24) (hl : mdL S m) (hC : MBy v m n B) (h1 : rw v m 17 = J (n : Int)) (hn : n < 500) :
    ∃ v', K_gm_appendWord_3 N (F + 1) S v m b (J p) = K_gm_appendWord_3 N F S v' m b (J (p + -8)) ∧ MBy v' m (n + 1) (put1 B n (by4 b p)) ∧ rw v' m = up (rw v m) 17 (J ((n + 1 : Nat) : Int)) ∧ (v'.2 = v.2 ∧ ∀ y, y ≠ m → y ≠ m + 6 → rw v' y = rw v y) := by
  obtain ⟨c1, c2, c3⟩ := hC
  obtain ⟨l0, -, -, -, -, -, -, ⟨l16, l6⟩, -⟩ := hl
  have tn : (J (n : Int)).toInt = (n : Int) := J_toInt (by omega) (by omega)
  have ne1 : m ≠ m + 6 := by omega
  refine ⟨wr (wr v (m + 6) (up (rw v (m + 6)) n (J (by4 b p)))) m (up (rw v m) 17 (J ((n + 1 : Nat) : Int))), ?_, ⟨by omega, put1_B c2 (b255 _), fun i hi => ?_⟩, rw_wr, rfl, fun y y0 y6 => by rw [rw_wr_ne y0, rw_wr_ne y6]⟩
  · show Y_gm_appendWord_3 N (K_gm_appendWord_3 N F S) S v m b (J p) = _
    unfold Y_gm_appendWord_3
    rw [if_neg (fun y => by have := (J_lt (by omega) (by decide)).mp y; omega), grd_true _ l0, l16]
    simp only [Option.bind_some]
    rw [grd_true _ l6, gi_rw, h1, grd_true _ (vin_of l6 tn hn), clampT tn, by4_J]
    simp only [lt_def, si_wr, gi_x, rw_wr_ne ne1, h1]
    rw [J_s, ← J_add]
  · rw [rw_wr_ne (by omega), rw_wr]
    unfold put1
    by_cases z : i = n
    · rw [z, up_same, if_pos rfl]
    · rw [up_ne z, if_neg z]
      exact c3 i (by omega)
/-- four bytes more -/
def put4 (B : Nat → Int) (n : Nat) (b : Int32) : Nat → Int := put1 (put1 (put1 (put1 B n (by4 b 24)) (n + 1) (by4 b 16)) (n + 2) (by4 b 8)) (n + 3) (by4 b 0)
theorem tx_word4 (hN : 100 ≤ N) (hL : gcL S a) (hC : CB v a n B) (h1 : rw v (a + 1) 1 = J (n : Int)) (hn : n + 4 ≤ 500) :
    ∃ v', F_tx_append N (a + 1) b S v = some v' ∧ CB v' a (n + 4) (put4 B n b) ∧ rw v' (a + 1) = up (rw v (a + 1)) 1 (J ((n + 4 : Nat) : Int)) ∧ fri (a + 1) 2 v v' := by
  obtain ⟨F, eF⟩ : ∃ F, N = F + 1 + 1 + 1 + 1 + 1 := ⟨N - 5, by omega⟩
  obtain ⟨v1, a1, a2, a3, a4⟩ := tx_put (N := N) (F := F + 1 + 1 + 1 + 1) (b := b) (p := 24) (by decide) hL hC h1 (by omega)
  obtain ⟨v2, b1, b2, b3, b4⟩ := tx_put (N := N) (F := F + 1 + 1 + 1) (b := b) (p := 16) (by decide) hL a2 (by rw [a3, up_same]) (by omega)
  obtain ⟨v3, c1, c2, c3, c4⟩ := tx_put (N := N) (F := F + 1 + 1) (b := b) (p := 8) (by decide) hL b2 (by rw [b3, up_same]) (by omega)
  obtain ⟨v4, d1, d2, d3, d4⟩ := tx_put (N := N) (F := F + 1) (b := b) (p := 0) (by decide) hL c2 (by rw [c3, up_same]) (by omega)
  refine ⟨v4, ?_, d2, ?_, fri_tr (fri_tr (fri_tr a4 b4) c4) d4⟩
  · have last : K_tx_append_3 N (F + 1) S v4 (a + 1) b (J (0 + -8)) = some v4 := by
      show Y_tx_append_3 N (K_tx_append_3 N F S) S v4 (a + 1) b (J (0 + -8)) = _
      unfold Y_tx_append_3
      rw [if_pos (by decide)]
    unfold F_tx_append
    have go : K_tx_append_3 N (F + 1 + 1 + 1 + 1 + 1) S v (a + 1) b (J 24) = some v4 := by
      rw [a1]
      show K_tx_append_3 N (F + 1 + 1 + 1 + 1) S v1 (a + 1) b (J 16) = _
      rw [b1]
      show K_tx_append_3 N (F + 1 + 1 + 1) S v2 (a + 1) b (J 8) = _
      rw [c1]
      show K_tx_append_3 N (F + 1 + 1) S v3 (a + 1) b (J 0) = _
      rw [d1, last]
    rw [← eF] at go
    exact go
  · rw [d3, c3, b3, a3, up_up, up_up, up_up]
theorem gm_word4 (hN : 100 ≤ N) (hl : mdL S m) (hC : MBy v m n B) (h1 : rw v m 17 = J (n : Int)) (hn : n + 4 ≤ 500) :
    ∃ v', F_gm_appendWord N m b S v = some v' ∧ MBy v' m (n + 4) (put4 B n b) ∧ rw v' m = up (rw v m) 17 (J ((n + 4 : Nat) : Int)) ∧ (v'.2 = v.2 ∧ ∀ y, y ≠ m → y ≠ m + 6 → rw v' y = rw v y) := by
  obtain ⟨F, eF⟩ : ∃ F, N = F + 1 + 1 + 1 + 1 + 1 := ⟨N - 5, by omega⟩
  obtain ⟨v1, a1, a2, a3, a4, a5⟩ := gm_put (N := N) (F := F + 1 + 1 + 1 + 1) (b := b) (p := 24) (by decide) hl hC h1 (by omega)
  obtain ⟨v2, b1, b2, b3, b4, b5⟩ := gm_put (N := N) (F := F + 1 + 1 + 1) (b := b) (p := 16) (by decide) hl a2 (by rw [a3, up_same]) (by omega)
  obtain ⟨v3, c1, c2, c3, c4, c5⟩ := gm_put (N := N) (F := F + 1 + 1) (b := b) (p := 8) (by decide) hl b2 (by rw [b3, up_same]) (by omega)
  obtain ⟨v4, d1, d2, d3, d4, d5⟩ := gm_put (N := N) (F := F + 1) (b := b) (p := 0) (by decide) hl c2 (by rw [c3, up_same]) (by omega)
  refine ⟨v4, ?_, d2, ?_, d4.trans (c4.trans (b4.trans a4)), fun y y0 y6 => (d5 y y0 y6).trans ((c5 y y0 y6).trans ((b5 y y0 y6).trans (a5 y y0 y6)))⟩
  · have last : K_gm_appendWord_3 N (F + 1) S v4 m b (J (0 + -8)) = some v4 := by
      show Y_gm_appendWord_3 N (K_gm_appendWord_3 N F S) S v4 m b (J (0 + -8)) = _
      unfold Y_gm_appendWord_3
      rw [if_pos (by decide)]
    unfold F_gm_appendWord
    have go : K_gm_appendWord_3 N (F + 1 + 1 + 1 + 1 + 1) S v m b (J 24) = some v4 := by
      rw [a1]
      show K_gm_appendWord_3 N (F + 1 + 1 + 1 + 1) S v1 m b (J 16) = _
      rw [b1]
      show K_gm_appendWord_3 N (F + 1 + 1 + 1) S v2 m b (J 8) = _
      rw [c1]
      show K_gm_appendWord_3 N (F + 1 + 1) S v3 m b (J 0) = _
      rw [d1, last]
    rw [← eF] at go
    exact go
  · rw [d3, c3, b3, a3, up_up, up_up, up_up]
/-- the bytes that a row of the reader holds, elsewhere written -/
theorem CB_eq (h : CB v a n B) (he : rw v' (a + 2) = rw v (a + 2)) : CB v' a n B := ⟨h.1, h.2.1, fun i hi => by rw [he]; exact h.2.2 i hi⟩
theorem MBy_eq (h : MBy v m n B) (he : rw v' (m + 6) = rw v (m + 6)) : MBy v' m n B := ⟨h.1, h.2.1, fun i hi => by rw [he]; exact h.2.2 i hi⟩
/-- rows m and m + 6 alone -/
def f06 (m : Nat) (v v' : vl) : Prop := v'.2 = v.2 ∧ ∀ y, y ≠ m → y ≠ m + 6 → rw v' y = rw v y
theorem f06_tr {u : vl} (h1 : f06 m v u) (h2 : f06 m u v') : f06 m v v' := ⟨h2.1.trans h1.1, fun y y0 y6 => (h2.2 y y0 y6).trans (h1.2 y y0 y6)⟩
/-- appendInput on both sides -/
theorem append_both {b1 b2 b3 b4 b5 : Int32} (hN : 100 ≤ N) (hL : gcL S a) (hl : mdL S m) (ham : a + 84 ≤ m) (hI : IR v a m) :
    ∃ x v', F_gc_appendInput N a b1 b2 b3 b4 b5 S v = some (x, v') ∧ fri (a + 1) 2 v v' ∧ ∃ v'', F_gm_appendInput N m b1 b2 b3 b4 b5 S v' = some (x, v'') ∧ f06 m v' v'' ∧ (∀ k, k ≠ 10 → k ≠ 17 → rw v'' m k = rw v' m k) ∧ rw v'' m 10 = J 0 ∧ IR v'' a m := by
  obtain ⟨n, B, hC, hM, r1, r17, r18, r19⟩ := hI
  have n5 := hC.1
  have cl : F_gc_appendInput N a b1 b2 b3 b4 b5 S v = if J 500 < J (n : Int) + J 20 then some (((J (-1)), v)) else (F_tx_append N (a + 1) b1 S v).bind fun w5 => (F_tx_append N (a + 1) b2 S w5).bind fun w6 => (F_tx_append N (a + 1) b3 S w6).bind fun w7 => (F_tx_append N (a + 1) b4 S w7).bind fun w8 => (F_tx_append N (a + 1) b5 S w8).bind fun w9 => some (((gi w9 (a + 1) 1), w9)) := by
    unfold F_gc_appendInput
    rw [grd_true _ hL.1.1, hL.1.2.1]
    simp only [Option.bind_some]
    rw [grd_true _ hL.2.1.1, gi_rw, r1]
  have md : ∀ u : vl, rw u m 17 = J (n : Int) → F_gm_appendInput N m b1 b2 b3 b4 b5 S u = if J 500 < J (n : Int) + J 20 then some (((J (-1)), th u m 0)) else (F_gm_appendWord N m b1 S (th u m 0)).bind fun w3 => (F_gm_appendWord N m b2 S w3).bind fun w4 => (F_gm_appendWord N m b3 S w4).bind fun w5 => (F_gm_appendWord N m b4 S w5).bind fun w6 => (F_gm_appendWord N m b5 S w6).bind fun w7 => some (((gi w7 m 17), w7)) := by
    intro u hu
    unfold F_gm_appendInput
    rw [grd_true _ hl.1]
    simp only [lt_def, si_th]
    rw [gi_rw, rw_th0 (by decide), hu]
  by_cases z : 500 < n + 20
  · have c : J 500 < J (n : Int) + J 20 := by rw [← J_add]; exact (J_lt (by decide) (by omega)).mpr (by omega)
    refine ⟨J (-1), v, by rw [cl, if_pos c], fri_refl _ _ _, th v m 0, by rw [md v r17, if_pos c], ⟨rfl, fun y y0 _ => rw_th y0⟩, fun k k10 _ => rw_th0 k10, th10, n, B, CB_eq hC (rw_th (by omega)), MBy_eq hM (rw_th (by omega)), by rw [rw_th (by omega)]; exact r1, by rw [rw_th0 (by decide)]; exact r17, by rw [rw_th0 (by decide), rw_th (by omega)]; exact r18, by rw [rw_th0 (by decide), rw_th (by omega)]; exact r19⟩
  · have c : ¬ J 500 < J (n : Int) + J 20 := fun y => by rw [← J_add] at y; have := (J_lt (by decide) (by omega)).mp y; omega
    obtain ⟨v1, p1, p2, p3, p4⟩ := tx_word4 (b := b1) hN hL hC r1 (by omega)
    obtain ⟨v2, q1, q2, q3, q4⟩ := tx_word4 (b := b2) hN hL p2 (by rw [p3, up_same]) (by omega)
    obtain ⟨v3, s1, s2, s3, s4⟩ := tx_word4 (b := b3) hN hL q2 (by rw [q3, up_same]) (by omega)
    obtain ⟨v4, t1, t2, t3, t4⟩ := tx_word4 (b := b4) hN hL s2 (by rw [s3, up_same]) (by omega)
    obtain ⟨v5, u1, u2, u3, u4⟩ := tx_word4 (b := b5) hN hL t2 (by rw [t3, up_same]) (by omega)
    have F5 : fri (a + 1) 2 v v5 := fri_tr (fri_tr (fri_tr (fri_tr p4 q4) s4) t4) u4
    have row : rw v5 (a + 1) = up (rw v (a + 1)) 1 (J ((n + 4 + 4 + 4 + 4 + 4 : Nat) : Int)) := by rw [u3, t3, s3, q3, p3, up_up, up_up, up_up, up_up]
    have M5 : MBy (th v5 m 0) m n B := MBy_eq hM (by rw [rw_th (by omega), F5.2 _ (by omega)])
    have m17 : rw v5 m 17 = J (n : Int) := by rw [F5.2 _ (by omega)]; exact r17
    obtain ⟨w1, a1, a2, a3, a4⟩ := gm_word4 (b := b1) hN hl M5 (by rw [rw_th0 (by decide)]; exact m17) (by omega)
    obtain ⟨w2, c1, c2, c3, c4⟩ := gm_word4 (b := b2) hN hl a2 (by rw [a3, up_same]) (by omega)
    obtain ⟨w3, d1, d2, d3, d4⟩ := gm_word4 (b := b3) hN hl c2 (by rw [c3, up_same]) (by omega)
    obtain ⟨w4, e1, e2, e3, e4⟩ := gm_word4 (b := b4) hN hl d2 (by rw [d3, up_same]) (by omega)
    obtain ⟨w5, f1, f2, f3, f4⟩ := gm_word4 (b := b5) hN hl e2 (by rw [e3, up_same]) (by omega)
    have G5 : f06 m v5 w5 := f06_tr (f06_tr (f06_tr (f06_tr (f06_tr (show f06 m v5 (th v5 m 0) from ⟨rfl, fun y y0 _ => rw_th y0⟩) a4) c4) d4) e4) f4
    have rowm : rw w5 m = up (rw (th v5 m 0) m) 17 (J ((n + 4 + 4 + 4 + 4 + 4 : Nat) : Int)) := by rw [f3, e3, d3, c3, a3, up_up, up_up, up_up, up_up]
    have rk : ∀ k, k ≠ 10 → k ≠ 17 → rw w5 m k = rw v5 m k := fun k k10 k17 => by rw [rowm, up_ne k17, rw_th0 k10]
    have ra : rw w5 (a + 1) = rw v5 (a + 1) := G5.2 _ (by omega) (by omega)
    refine ⟨J ((n + 4 + 4 + 4 + 4 + 4 : Nat) : Int), v5, ?_, F5, w5, ?_, G5, rk, by rw [rowm, up_ne (by decide)]; exact th10, n + 4 + 4 + 4 + 4 + 4, _, CB_eq u2 (G5.2 _ (by omega) (by omega)), f2, by rw [ra, row, up_same], by rw [rowm, up_same], ?_, ?_⟩
    · rw [cl, if_neg c, p1]
      simp only [Option.bind_some]
      rw [q1]
      simp only [Option.bind_some]
      rw [s1]
      simp only [Option.bind_some]
      rw [t1]
      simp only [Option.bind_some]
      rw [u1]
      simp only [Option.bind_some]
      rw [gi_rw, row, up_same]
    · rw [md v5 m17, if_neg c, a1]
      simp only [Option.bind_some]
      rw [c1]
      simp only [Option.bind_some]
      rw [d1]
      simp only [Option.bind_some]
      rw [e1]
      simp only [Option.bind_some]
      rw [f1]
      simp only [Option.bind_some]
      rw [gi_rw, rowm, up_same]
    · rw [rk 18 (by decide) (by decide), ra, row, up_ne (by decide), F5.2 _ (by omega)]; exact r18
    · rw [rk 19 (by decide) (by decide), ra, row, up_ne (by decide), F5.2 _ (by omega)]; exact r19
/-- truncateInput on both sides -/
theorem trunc_both {x : Int} (hL : gcL S a) (hl : mdL S m) (ham : a + 84 ≤ m) (hI : IR v a m) (hx : -2147483648 ≤ x ∧ x < 2147483648) :
    ∃ y v', F_gc_truncateInput a (J x) S v = some (y, v') ∧ fri (a + 1) 2 v v' ∧ ∃ v'', F_gm_truncateInput m (J x) S v' = some (y, v'') ∧ f06 m v' v'' ∧ (∀ k, k ≠ 10 → k ≠ 17 → rw v'' m k = rw v' m k) ∧ rw v'' m 10 = J 0 ∧ IR v'' a m := by
  obtain ⟨n, B, hC, hM, r1, r17, r18, r19⟩ := hI
  have n5 := hC.1
  have n1 : ¬ J 1 = J 0 := by decide
  have md : ∀ u : vl, rw u m 17 = J (n : Int) → F_gm_truncateInput m (J x) S u = if 0 ≤ x ∧ x ≤ n then some (J 1, wr u m (up (up (rw u m) 10 (J 0)) 17 (J x))) else some (J 0, th u m 0) := by
    intro u hu
    unfold F_gm_truncateInput
    rw [grd_true _ hl.1]
    simp only [lt_def, si_th]
    rw [gi_rw, rw_th0 (by decide), hu, gm_inRange hx (by decide) (by omega)]
    simp only [Option.bind_some]
    by_cases z : 0 ≤ x ∧ x ≤ (n : Int)
    · rw [if_pos z, if_neg n1, if_pos z, si_wr]
      unfold th
      rw [rw_wr, wr_wr]
    · rw [if_neg z, if_pos rfl, if_neg z]
  by_cases z : 0 ≤ x ∧ x ≤ (n : Int)
  · have ex : ((x.toNat : Nat) : Int) = x := by omega
    obtain ⟨u, eu⟩ : ∃ u, u = wr v (a + 1) (up (rw v (a + 1)) 1 (J x)) := ⟨_, rfl⟩
    have u0 : ∀ y, y ≠ a + 1 → rw u y = rw v y := fun y hy => by rw [eu, rw_wr_ne hy]
    have u1 : rw u (a + 1) = up (rw v (a + 1)) 1 (J x) := by rw [eu, rw_wr]
    refine ⟨J 1, u, ?_, by rw [eu]; exact fri_wr (by omega), wr u m (up (up (rw u m) 10 (J 0)) 17 (J x)), by rw [md u (by rw [u0 _ (by omega)]; exact r17), if_pos z], ⟨rfl, fun y y0 _ => rw_wr_ne y0⟩, fun k k10 k17 => by rw [rw_wr, up_ne k17, up_ne k10], by rw [rw_wr, up_ne (by decide), up_same], x.toNat, B, ⟨by omega, fun j hj => hC.2.1 j (by omega), fun i hi => by rw [rw_wr_ne (by omega), u0 _ (by omega)]; exact hC.2.2 i (by omega)⟩, ⟨by omega, fun j hj => hC.2.1 j (by omega), fun i hi => by rw [rw_wr_ne (by omega), u0 _ (by omega)]; exact hM.2.2 i (by omega)⟩, by rw [rw_wr_ne (by omega), u1, up_same, ex], by rw [rw_wr, up_same, ex], ?_, ?_⟩
    · unfold F_gc_truncateInput
      rw [if_neg (fun y => by have := (J_lt (by omega) (by decide)).mp y; omega), grd_true _ hL.1.1, hL.1.2.1]
      simp only [Option.bind_some]
      rw [grd_true _ hL.2.1.1, gi_rw, r1, if_neg (fun y => by have := (J_lt (by omega) (by omega)).mp y; omega)]
      simp only [lt_def, si_wr]
      rw [← eu]
    · rw [rw_wr, up_ne (by decide), up_ne (by decide), u0 _ (by omega), rw_wr_ne (by omega), u1, up_ne (by decide)]; exact r18
    · rw [rw_wr, up_ne (by decide), up_ne (by decide), u0 _ (by omega), rw_wr_ne (by omega), u1, up_ne (by decide)]; exact r19
  · refine ⟨J 0, v, ?_, fri_refl _ _ _, th v m 0, by rw [md v r17, if_neg z], ⟨rfl, fun y y0 _ => rw_th y0⟩, fun k k10 _ => rw_th0 k10, th10, n, B, CB_eq hC (rw_th (by omega)), MBy_eq hM (rw_th (by omega)), by rw [rw_th (by omega)]; exact r1, by rw [rw_th0 (by decide)]; exact r17, by rw [rw_th0 (by decide), rw_th (by omega)]; exact r18, by rw [rw_th0 (by decide), rw_th (by omega)]; exact r19⟩
    unfold F_gc_truncateInput
    by_cases z1 : x < 0
    · rw [if_pos ((J_lt (by omega) (by decide)).mpr z1)]
    · rw [if_neg (fun y => z1 ((J_lt (by omega) (by decide)).mp y)), grd_true _ hL.1.1, hL.1.2.1]
      simp only [Option.bind_some]
      rw [grd_true _ hL.2.1.1, gi_rw, r1, if_pos ((J_lt (by omega) (by omega)).mpr (by omega))]
/-- what the last reading said -/
theorem err_both (hL : gcL S a) (hl : mdL S m) (hI : IR v a m) : (∃ x, F_gc_errorCode a S v = some x ∧ F_gm_errorCode m S v = some (x, th v m 0)) ∧ ∃ x, F_gc_errorOffset a S v = some x ∧ F_gm_errorOffset m S v = some (x, th v m 0) := by
  obtain ⟨n, B, hC, hM, r1, r17, r18, r19⟩ := hI
  refine ⟨⟨rw v (a + 1) 2, ?_, ?_⟩, rw v (a + 1) 3, ?_, ?_⟩
  · unfold F_gc_errorCode
    rw [grd_true _ hL.1.1, hL.1.2.1]
    simp only [Option.bind_some]
    rw [grd_true _ hL.2.1.1, gi_rw]
  · unfold F_gm_errorCode
    rw [grd_true _ hl.1]
    simp only [lt_def, si_th]
    rw [gi_rw, rw_th0 (by decide), r18]
  · unfold F_gc_errorOffset
    rw [grd_true _ hL.1.1, hL.1.2.1]
    simp only [Option.bind_some]
    rw [grd_true _ hL.2.1.1, gi_rw]
  · unfold F_gm_errorOffset
    rw [grd_true _ hl.1]
    simp only [lt_def, si_th]
    rw [gi_rw, rw_th0 (by decide), r19]
end INPUTS
