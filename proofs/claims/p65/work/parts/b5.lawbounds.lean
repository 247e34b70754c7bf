/-! Bounds along the law's run; what stays beside. -/
section LAWBOUNDS
variable {S S' : shp} {v v' : vl} {a o b N q k l : Nat} {h c g t p X : Nat → Int} {M : Nat → Nat → Int} {now : sta} {sv : Option sta} {ps : List sta} {re ca ch T : Int}
/-- rows below the object that move leave it -/
theorem cR_lo (hR : cR S v a now sv ps re ca ch q) (hf : ∀ x, x ≠ o → rw v' x = rw v x) (hb : o < a) (hk : kin S o ≠ some (0, 1)) : cR S v' a now sv ps re ca ch q := by
  have hf' : fri o 1 v (v'.1, v.2) := ⟨rfl, fun x hx => hf x (by omega)⟩
  have hk' : ∀ y, o ≤ y → y < o + 1 → kin S y ≠ some (0, 1) := fun y y1 y2 => by rw [show y = o by omega]; exact hk
  show cR S (v'.1, v.2) a now sv ps re ca ch q
  obtain ⟨hL, ⟨n1, n2⟩, hsv, ⟨n, p1, p2, p3, p4, p5, p6⟩, r2, r3, r4⟩ := hR
  have e0 : rw (v'.1, v.2) a = rw v a := hf'.2 _ (by omega)
  refine ⟨hL, ⟨stA_frk n1 hf' (by omega) hk', n2⟩, ?_, ⟨n, by rw [e0]; exact p1, p2, p3, by rw [e0]; exact p4, p5, fun i s his => ?_⟩, by rw [e0]; exact r2, by rw [e0]; exact r3, by rw [e0]; exact r4⟩
  · rcases hsv with ⟨z1, z2⟩ | ⟨s, z1, z2, z3, z4⟩
    · exact Or.inl ⟨z1, by rw [e0]; exact z2⟩
    · exact Or.inr ⟨s, z1, by rw [e0]; exact z2, stA_frk z3 hf' (by omega) hk', z4⟩
  · obtain ⟨y1, y2⟩ := p6 i s his
    have : (n - 1 - i) % 8 < 8 := Nat.mod_lt _ (by decide)
    exact ⟨y1, stA_frk y2 hf' (by omega) hk'⟩
theorem cR_fle {e : Nat} (hR : cR S v a now sv ps re ca ch q) (hl : lwL S o) (hf : fle o e v v') (hb : o < a) : cR S v' a now sv ps re ca ch q :=
  cR_lo hR (fun x hx => (hf.1 x hx).1) hb (by rw [hl.1]; decide)
/-- the class's changes leave the law's object -/
theorem lwL_exg (hl : lwL S o) (hw : wfS S) (hb : o + 3 ≤ a) (he : exg a k l S v S' v') : lwL S' o := by
  obtain ⟨l0, l1, l2, l3, l4⟩ := hl
  obtain ⟨-, x2, x3, -⟩ := he
  have n0 := kin_lt hw l0
  have n1 := kin_lt hw l2
  have n2 := kin_lt hw l4
  exact ⟨(x3 _ n0).trans l0, ((x2 o (by omega) (by omega) n0).2 2).trans l1, (x3 _ n1).trans l2, ((x2 o (by omega) (by omega) n0).2 3).trans l3, (x3 _ n2).trans l4⟩
theorem rows_exg (hl : lwL S o) (hw : wfS S) (hb : o + 3 ≤ a) (he : exg a k l S v S' v') : rw v' o = rw v o ∧ rw v' (o + 1) = rw v (o + 1) ∧ rw v' (o + 2) = rw v (o + 2) ∧ v'.2 o = v.2 o := by
  obtain ⟨l0, l1, l2, l3, l4⟩ := hl
  obtain ⟨x1, x2, x3, -⟩ := he
  have n0 := kin_lt hw l0
  have n1 := kin_lt hw l2
  have n2 := kin_lt hw l4
  exact ⟨(x2 o (by omega) (by omega) n0).1, (x2 (o + 1) (by omega) (by omega) n1).1, (x2 (o + 2) (by omega) (by omega) n2).1, x1 o n0⟩
theorem lwR_exg (hR : lwR v o X T c g) (hl : lwL S o) (hw : wfS S) (hb : o + 3 ≤ a) (he : exg a k l S v S' v') : lwR v' o X T c g := by
  obtain ⟨e0, e1, e2, e3⟩ := rows_exg hl hw hb he
  obtain ⟨h1, h2, h3, h4⟩ := hR
  refine ⟨by rw [e0]; exact h1, by rw [e0]; exact h2, ?_, h4.1, fun j hj => by rw [e1, e2]; exact h4.2 j hj⟩
  have : gl v' o 20 = gl v o 20 := by unfold gl; rw [e3]
  rw [this]
  exact h3
-- a clock's bounds
theorem tk42 (hc : ckI c) (h0 : c 0 ≤ 41) : tkZ c 4 ≤ c 4 + 42 := by
  have hD := tkD_I hc
  have h3 := hc.2.2.2.1
  show c 4 + c 0 + (c 3 + tkD c) / 1000 ≤ _
  omega
theorem tkN42 (hc : ckI c) (h0 : c 0 ≤ 41) : ∀ n : Nat, (tkN n c) 4 ≤ c 4 + 42 * n
  | 0 => by show c 4 ≤ _; omega
  | n + 1 => by
    have i := tkN42 hc h0 n
    have k := tkN_inv hc n
    have := tk42 k.1 (by rw [k.2.2.2.2.1]; exact h0)
    show tkZ (tkN n c) 4 ≤ _
    omega
theorem ckK42 (hc : ckI c) (h0 : c 0 ≤ 41) {D : Int} (hD : c 4 ≤ D) (hT : T + 42 ≤ D) : ckK T c 4 ≤ D ∧ ckK T c 0 = c 0 := by
  have := (ckK_M (T := T) hc (fun d => d 4 ≤ D ∧ d 0 = c 0) ⟨hD, rfl⟩ (fun d hd hM hT' => ⟨by have := tk42 hd (by rw [hM.2]; exact h0); omega, hM.2⟩)).1
  exact this
-- a signal's bounds
def sgX (t p g : Nat → Int) : Prop := (∀ i : Nat, (i : Int) < g 8 → t i ≤ 900 ∧ p i ≤ 64) ∧ 0 < p (g 8 - 1).toNat ∧ g 0 ≤ 64 ∧ (g 9 = g 8 → 0 < g 0)
theorem sgX_ev {u : Int} (hJ : sgJ u t p g) (hX : sgX t p g) : sgX t p (ev1 t p g) := by
  obtain ⟨x1, x2, x3, x4⟩ := hX
  have b9 := hJ.2.1
  unfold ev1
  split
  · rename_i hs
    have h98 := hs.1
    refine ⟨x1, x2, (x1 (g 9).toNat (by omega)).2, fun e => ?_⟩
    have e' : g 9 + 1 = g 8 := e
    show 0 < p (g 9).toNat
    rw [show (g 9).toNat = (g 8 - 1).toNat by omega]
    exact x2
  · exact ⟨x1, x2, x3, x4⟩
theorem sgX_K {u K : Int} (hJ : sgJ u t p g) (hu : 0 ≤ u) (hu2 : u ≤ 2100000) (hK : K ≤ 6300002) (hX : sgX t p g) {B : Int} (hB : 964 ≤ B) (h1 : g 1 ≤ B) (hKB : K / 3 + 64 ≤ B) : sgX t p (sgK t p K g) ∧ sgK t p K g 1 ≤ B := by
  refine sgK_M hJ hu hu2 hK (fun d => sgX t p d ∧ d 1 ≤ B) ⟨hX, h1⟩ (fun u d hJ' _ _ hM hk => ⟨sgX_ev hJ' hM.1, ?_⟩)
  obtain ⟨⟨x1, x2, x3, x4⟩, hb⟩ := hM
  have b9 := hJ'.2.1
  unfold ev1
  split
  · rename_i hs
    have h98 := hs.1
    have := x1 (d 9).toNat (by omega)
    show (if 0 < p (d 9).toNat then t (d 9).toNat + p (d 9).toNat else -1) ≤ B
    split <;> omega
  · rename_i hs
    unfold keS at hk
    rw [if_neg hs] at hk
    show d 1 + d 0 ≤ B
    by_cases z : d 1 = -1
    · rw [if_pos z] at hk; omega
    · rw [if_neg z] at hk; omega
theorem eT_ok : ∀ (n : Nat) (k u B : Int) (g : Nat → Int), sgJ u t p g → 0 ≤ u → u ≤ 2100000 → 6000003 - keS t g < n → 1 ≤ k → g 1 ≤ B → 964 ≤ B → sgX t p g → B + 64 * k ≤ 2000000 → eT t p k g ≠ -1 ∧ eT t p k g ≤ B + 64 * k
  | n, k, u, B, g, hJ, hu, hu2, hn, hk, h1, hB, hX, hT => by
    obtain ⟨x1, x2, x3, x4⟩ := id hX
    have b9 := hJ.2.1
    have s1 := hJ.1.2.1
    have s2 := hJ.1.2.2.1
    have s0 := hJ.1.1
    have hke : keS t g ≤ 3 * B + 2 ∧ keS t g ≤ 6000002 := by
      unfold keS
      split
      · rename_i hs
        have := x1 (g 9).toNat (by have := hs.1; omega)
        omega
      · rename_i hs
        by_cases z : g 1 = -1
        · exfalso
          have h98 : ¬ g 9 < g 8 := fun y => hs ⟨y, Or.inl z⟩
          have := x4 (by omega)
          have := s2 this
          omega
        · rw [if_neg z]; omega
    cases n with
    | zero => omega
    | succ n =>
      obtain ⟨u', hJ', q1, q2, q3, q4, q5, q6⟩ := ev1_J hJ hu (show keS t g ≤ 6300002 by omega)
      rw [eT_1 hJ hu hke.2]
      have hX' := sgX_ev hJ hX
      by_cases hs : evS t g
      · rw [if_pos hs]
        refine eT_ok n k u' B _ hJ' (by omega) q3 (by omega) hk ?_ hB hX' hT
        have e : ev1 t p g = smZ t p g := if_pos hs
        rw [e]
        have := x1 (g 9).toNat (by have := hs.1; omega)
        show (if 0 < p (g 9).toNat then t (g 9).toNat + p (g 9).toNat else -1) ≤ B
        split <;> omega
      · rw [if_neg hs]
        have q := q5 hs
        by_cases z : k ≤ 1
        · rw [if_pos z]
          omega
        · rw [if_neg z]
          have e : ev1 t p g = egZ g := if_neg hs
          have := eT_ok n (k - 1) u' (B + 64) _ hJ' (by omega) q3 (by omega) (by omega) (by rw [e]; show g 1 + g 0 ≤ B + 64; omega) (by omega) hX' (by omega)
          omega
theorem oN_ok {u B : Int} {i : Nat} (hJ : sgJ u t p g) (hu : 0 ≤ u) (hu2 : u ≤ 2100000) (h1 : g 1 ≤ B) (hB : 964 ≤ B) (hX : sgX t p g) (hi : i ≤ 32) (hT : B + 34000 ≤ 2000000) : oN t p i g ≠ -1 ∧ oN t p i g ≤ B + 33792 := by
  obtain ⟨k1, -⟩ := oN_k hJ i
  have h4 := hJ.1.2.2.2.2
  have m : ((i : Int) + 1) * g 4 ≤ 33 * 16 := Int.mul_le_mul (by omega) (by omega) (by omega) (by omega)
  have := eT_ok _ (((i : Int) + 1) * g 4 - g 5) u B g hJ hu hu2 (fuel6 _) k1 h1 hB hX (by omega)
  unfold oN
  omega
/-- the accounts, as numbers -/
def auZ (g : Nat → Int) : Prop := g 2 - g 6 = g 4 * (g 3 - g 7) + g 5
theorem auI_1 (h : auZ g) : auI g = J 1 := by
  unfold auI
  rw [if_pos]
  rw [← J_sub, ← J_sub, ← J_mul, ← J_add, h]
theorem auZ_K {u K : Int} (hJ : sgJ u t p g) (hu : 0 ≤ u) (hu2 : u ≤ 2100000) (hK : K ≤ 6300002) (h : auZ g) : auZ (sgK t p K g) := by
  have e := sgK_sum (K := K) hJ hu hu2 hK
  have kp := sgK_keep (K := K) hJ hu hu2 hK
  have k4 := kp 4 (Or.inl rfl)
  have k6 := kp 6 (Or.inr (Or.inl rfl))
  have k7 := kp 7 (Or.inr (Or.inr (Or.inl rfl)))
  unfold auZ at *
  rw [k6, k4, k7]
  have m1 : g 4 * (sgK t p K g 3 - g 7) = sgK t p K g 3 * g 4 - g 4 * g 7 := by rw [Int.mul_sub, Int.mul_comm (g 4) (sgK t p K g 3)]
  have m2 : g 4 * (g 3 - g 7) = g 3 * g 4 - g 4 * g 7 := by rw [Int.mul_sub, Int.mul_comm (g 4) (g 3)]
  omega
-- bits
theorem mask_B {m : Int32} {n : Nat} (hm : m.toBitVec.toNat = n) (hn : n < 2147483648) (x : Int32) : ∃ y : Int, x &&& m = J y ∧ 0 ≤ y ∧ y ≤ n := by
  have c : (x &&& m).toInt = if 2 * (x &&& m).toBitVec.toNat < 4294967296 then ((x &&& m).toBitVec.toNat : Int) else ((x &&& m).toBitVec.toNat : Int) - 4294967296 := BitVec.toInt_eq_toNat_cond _
  have l : (x &&& m).toBitVec.toNat ≤ n := by
    rw [Int32.toBitVec_and, BitVec.toNat_and, hm]
    exact Nat.and_le_right
  rw [if_pos (by omega)] at c
  exact ⟨(x &&& m).toInt, (J_of _).symm, by omega, by omega⟩
theorem lwb_ok {f m : Int32} {n : Nat} (hm : (((J 1) <<< (m &&& 31)) - (J 1)).toBitVec.toNat = n) (hn : n < 2147483648) (x : Int32) : ∃ y : Int, (∀ (S : shp) (v : vl), F_lw_bits x f m S v = some (J y)) ∧ 0 ≤ y ∧ y ≤ n := by
  obtain ⟨y, e, y0, y1⟩ := mask_B hm hn ((Int32.toUInt32 x >>> (Int32.toUInt32 f &&& Int32.toUInt32 31)).toInt32)
  refine ⟨y, fun S v => ?_, y0, y1⟩
  unfold F_lw_bits
  simp only [lt_def]
  rw [e]
/-- a power of two, from a number's rest by 5 -/
theorem sh5 {y : Int} (h : 0 ≤ y ∧ y ≤ 7) : ∃ P : Int, (J 1) <<< ((J y - J y / (J 5) * (J 5)) &&& 31) = J P ∧ isP P := by
  have : y = 0 ∨ y = 1 ∨ y = 2 ∨ y = 3 ∨ y = 4 ∨ y = 5 ∨ y = 6 ∨ y = 7 := by omega
  rcases this with e | e | e | e | e | e | e | e <;> subst e
  · exact ⟨1, by decide, (by unfold isP; decide)⟩
  · exact ⟨2, by decide, (by unfold isP; decide)⟩
  · exact ⟨4, by decide, (by unfold isP; decide)⟩
  · exact ⟨8, by decide, (by unfold isP; decide)⟩
  · exact ⟨16, by decide, (by unfold isP; decide)⟩
  · exact ⟨1, by decide, (by unfold isP; decide)⟩
  · exact ⟨2, by decide, (by unfold isP; decide)⟩
  · exact ⟨4, by decide, (by unfold isP; decide)⟩
end LAWBOUNDS
