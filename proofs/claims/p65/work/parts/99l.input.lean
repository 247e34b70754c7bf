/-! The text that is read: what is appended, cut off; the last fault. -/
section INPUTS
variable {S S' : shp} {v w v' : vl} {a m N n : Nat} {B : Nat → Int} {b : Int32}
/-- pasted from the kit's laws (BITS) -/
theorem bp_b (x : Int32) : x.toInt8.toInt32 &&& 255 = x &&& 255 := by
  apply Int32.toBitVec_inj.mp
  rw [Int32.toBitVec_and, Int32.toBitVec_and, Int8.toBitVec_toInt32, Int32.toBitVec_toInt8]
  apply BitVec.eq_of_getLsbD_eq
  intro i hi
  rw [BitVec.getLsbD_and, BitVec.getLsbD_and]
  have hm : ∀ i < 32, 8 ≤ i → (255 : Int32).toBitVec.getLsbD i = false := by decide
  rcases Nat.lt_or_ge i 8 with z | z
  · rw [BitVec.getLsbD_signExtend, BitVec.getLsbD_signExtend, if_pos z, if_pos hi]
    simp only [z, hi, decide_true, Bool.true_and]
  · rw [hm i hi z]; simp
theorem j255 : J 255 = 255 := rfl
theorem by_8 (x : Int32) : Int8.toInt32 (Int32.toInt8 (Int8.toInt32 (Int32.toInt8 x))) &&& J 255 = x &&& J 255 := by
  rw [j255]
  exact (bp_b _).trans (bp_b x)
theorem b255 (x : Int32) : 0 ≤ (x &&& J 255).toInt ∧ (x &&& J 255).toInt ≤ 255 := by
  have c : (x &&& J 255).toInt = if 2 * (x &&& J 255).toBitVec.toNat < 4294967296 then ((x &&& J 255).toBitVec.toNat : Int) else ((x &&& J 255).toBitVec.toNat : Int) - 4294967296 := BitVec.toInt_eq_toNat_cond _
  have e : (J 255).toBitVec.toNat = 255 := by decide
  have l : (x &&& J 255).toBitVec.toNat ≤ 255 := by
    rw [Int32.toBitVec_and, BitVec.toNat_and, e]
    exact Nat.and_le_right
  rw [if_pos (by omega)] at c
  omega
def by4 (b : Int32) (p : Int) : Int := ((b >>> (J p &&& 31)) &&& J 255).toInt
theorem by4_J {p : Int} : (b >>> (J p &&& 31)) &&& J 255 = J (by4 b p) := (J_of _).symm
def put1 (B : Nat → Int) (n : Nat) (x : Int) : Nat → Int := fun i => if i = n then x else B i
theorem put1_B {x : Int} (hB : ∀ j, j < n → 0 ≤ B j ∧ B j ≤ 255) (hx : 0 ≤ x ∧ x ≤ 255) : ∀ j, j < n + 1 → 0 ≤ put1 B n x j ∧ put1 B n x j ≤ 255 := by
  intro j hj
  unfold put1
  by_cases z : j = n
  · rw [if_pos z]; exact hx
  · rw [if_neg z]; exact hB j (by omega)
theorem tx_put {p : Int} {F : Nat} (hp : 0 ≤ p ∧ p ≤ 24) (hL : gcL S a) (hC : CB v a n B) (h1 : rw v (a + 1) 1 = J (n : Int)) (hn : n < 500) :
    ∃ v', K_tx_append_3 N (F + 1) S v (a + 1) b (J p) = K_tx_append_3 N F S v' (a + 1) b (J (p + -8)) ∧ CB v' a (n + 1) (put1 B n (by4 b p)) ∧ rw v' (a + 1) = up (rw v (a + 1)) 1 (J ((n + 1 : Nat) : Int)) ∧ fri (a + 1) 2 v v' := by
  obtain ⟨c1, c2, c3⟩ := hC
  obtain ⟨-, ⟨k1, g1, k2, g4⟩, -⟩ := hL
  have tn : (J (n : Int)).toInt = (n : Int) := J_toInt (by omega) (by omega)
  have ne1 : a + 1 ≠ a + 2 := by omega
  have e5 : nI (alen S (a + 2)) = J 500 := by rw [alen_of k2]; rfl
  obtain ⟨x8, ex8⟩ : ∃ x8, x8 = Int8.toInt32 (Int32.toInt8 (Int8.toInt32 (Int32.toInt8 (b >>> (J p &&& 31))))) := ⟨_, rfl⟩
  have e8 : x8 &&& J 255 = J (by4 b p) := by rw [ex8, by_8]; exact by4_J
  refine ⟨wr (wr v (a + 2) (up (rw v (a + 2)) n x8)) (a + 1) (up (rw v (a + 1)) 1 (J ((n + 1 : Nat) : Int))), ?_, ⟨by omega, put1_B c2 (b255 _), fun i hi => ?_⟩, rw_wr, fri_tr (fri_wr (by omega)) (fri_wr (by omega))⟩
  · show Y_tx_append_3 N (K_tx_append_3 N F S) S v (a + 1) b (J p) = _
    unfold Y_tx_append_3
    rw [if_neg (fun y => by have := (J_lt (by omega) (by decide)).mp y; omega), grd_true _ k1, g1]
    simp only [Option.bind_some]
    rw [grd_true _ k2, gi_rw, h1, e5, if_pos ((J_lt (by omega) (by decide)).mpr (by omega)), grd_true _ (vin_of k2 tn hn), clampT tn, ← ex8]
    simp only [lt_def, si_wr, gi_x, rw_wr_ne ne1, h1]
    rw [J_s, ← J_add]
  · rw [rw_wr_ne (by omega), rw_wr]
    unfold put1
    by_cases z : i = n
    · rw [z, up_same, if_pos rfl, e8]
    · rw [up_ne z, if_neg z]
      exact c3 i (by omega)
/-- four bytes more -/
def put4 (B : Nat → Int) (n : Nat) (b : Int32) : Nat → Int := put1 (put1 (put1 (put1 B n (by4 b 24)) (n + 1) (by4 b 16)) (n + 2) (by4 b 8)) (n + 3) (by4 b 0)
theorem tx_word4 (hN : 100 ≤ N) (hL : gcL S a) (hC : CB v a n B) (h1 : rw v (a + 1) 1 = J (n : Int)) (hn : n + 4 ≤ 500) :
    ∃ v', F_tx_append N (a + 1) b S v = some v' ∧ CB v' a (n + 4) (put4 B n b) ∧ rw v' (a + 1) = up (rw v (a + 1)) 1 (J ((n + 4 : Nat) : Int)) ∧ fri (a + 1) 2 v v' := by
  obtain ⟨F, eF⟩ : ∃ F, N = F + 1 + 1 + 1 + 1 + 1 := ⟨N - 5, by omega⟩
  obtain ⟨v1, a1, a2, a3, a4⟩ := tx_put (N := N) (F := F + 1 + 1 + 1 + 1) (b := b) (p := 24) (by decide) hL hC h1 (by omega)
  obtain ⟨v2, b1, b2, b3, b4⟩ := tx_put (N := N) (F := F + 1 + 1 + 1) (b := b) (p := 16) (by decide) hL a2 (by rw [a3, up_same]) (by omega)
  obtain ⟨v3, c1, c2, c3, c4⟩ := tx_put (N := N) (F := F + 1 + 1) (b := b) (p := 8) (by decide) hL b2 (by rw [b3, up_same]) (by omega)
  obtain ⟨v4, d1, d2, d3, d4⟩ := tx_put (N := N) (F := F + 1) (b := b) (p := 0) (by decide) hL c2 (by rw [c3, up_same]) (by omega)
  refine ⟨v4, ?_, d2, ?_, fri_tr (fri_tr (fri_tr a4 b4) c4) d4⟩
  · have last : K_tx_append_3 N (F + 1) S v4 (a + 1) b (J (0 + -8)) = some v4 := by
      show Y_tx_append_3 N (K_tx_append_3 N F S) S v4 (a + 1) b (J (0 + -8)) = _
      unfold Y_tx_append_3
      rw [if_pos (by decide)]
    unfold F_tx_append
    have go : K_tx_append_3 N (F + 1 + 1 + 1 + 1 + 1) S v (a + 1) b (J 24) = some v4 := by
      rw [a1]
      show K_tx_append_3 N (F + 1 + 1 + 1 + 1) S v1 (a + 1) b (J 16) = _
      rw [b1]
      show K_tx_append_3 N (F + 1 + 1 + 1) S v2 (a + 1) b (J 8) = _
      rw [c1]
      show K_tx_append_3 N (F + 1 + 1) S v3 (a + 1) b (J 0) = _
      rw [d1, last]
    rw [← eF] at go
    exact go
  · rw [d3, c3, b3, a3, up_up, up_up, up_up]
end INPUTS
