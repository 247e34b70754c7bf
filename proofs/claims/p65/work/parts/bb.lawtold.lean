/-! The law's text goes to the class, four signs a word. -/
section LAWTOLD
variable {S S' S0 : shp} {v v' v0 u : vl} {a b s q N j k l r len x n : Nat} {L : List Int} {T c : Nat → Int} {w : Int32}
theorem gcL_grow {d : kd} (hL : gcL S a) (hw : wfS S) : gcL (grow S d k) a := by
  have u : vl := (fun _ _ => 0, fun _ _ => 0)
  have he : exi (a + 11) 6 1 k S u (grow S d k) (zero u (nxt S)) := exi_grow
  have he3 : exi (a + 3) 6 1 k S u (grow S d k) (zero u (nxt S)) := exi_grow
  have hs : stL (grow S d k) (a + 3) := stL_exi (gcL_st hL (Or.inl rfl)) hw (Or.inl (by omega)) he
  exact gcL_exi hL hw (Or.inl rfl) hs he3
theorem J_nat {y : Nat} (h : y < 2147483648) : (J (y : Int)).toBitVec.toNat = y := by
  have c : (J (y : Int)).toInt = if 2 * (J (y : Int)).toBitVec.toNat < 4294967296 then ((J (y : Int)).toBitVec.toNat : Int) else ((J (y : Int)).toBitVec.toNat : Int) - 4294967296 := BitVec.toInt_eq_toNat_cond _
  rw [J_toInt (by omega) (by omega)] at c
  have := (J (y : Int)).toBitVec.isLt
  split at c <;> omega
theorem J_ofN {y : Nat} {z : Int32} (h : z.toBitVec.toNat = y) (hy : y < 2147483648) : z = J (y : Int) := by
  apply Int32.toBitVec_inj.mp
  apply BitVec.eq_of_toNat_eq
  rw [h, J_nat hy]
/-- a sign more in a word -/
theorem sh8 {y d : Nat} (hy : y < 8388608) (hd : d < 256) : (J (y : Int) <<< (J 8 &&& 31)) ||| J (d : Int) = J ((y * 256 + d : Nat) : Int) := by
  refine J_ofN ?_ (by omega)
  have e8 : ((J 8 &&& 31).toBitVec.smod 32).toNat = 8 := by decide
  rw [Int32.toBitVec_or, Int32.toBitVec_shiftLeft, BitVec.toNat_or, J_nat (by omega), BitVec.shiftLeft_eq', e8, BitVec.toNat_shiftLeft, J_nat (by omega), Nat.mod_eq_of_lt (by rw [Nat.shiftLeft_eq]; omega), ← Nat.shiftLeft_add_eq_or_of_lt (by omega), Nat.shiftLeft_eq]
theorem by4_p {W p : Nat} (hW : W < 2147483648) (hp : ((J (p : Int) &&& 31).toBitVec.smod 32).toNat = p) : by4 (J (W : Int)) (p : Int) = ((W / 2 ^ p % 256 : Nat) : Int) := by
  have e : (J (W : Int) >>> (J (p : Int) &&& 31)) &&& J 255 = J ((W / 2 ^ p % 256 : Nat) : Int) := by
    refine J_ofN ?_ (by have := Nat.mod_lt (W / 2 ^ p) (show 256 > 0 by decide); omega)
    have e255 : (J 255).toBitVec.toNat = 2 ^ 8 - 1 := by decide
    have msb : (J (W : Int)).toBitVec.msb = false := by
      rw [BitVec.msb_eq_false_iff_two_mul_lt, J_nat hW]
      omega
    rw [Int32.toBitVec_and, Int32.toBitVec_shiftRight, BitVec.toNat_and, e255, BitVec.sshiftRight_eq', hp, BitVec.sshiftRight_eq_of_msb_false msb, BitVec.toNat_ushiftRight, J_nat hW, Nat.and_two_pow_sub_one_eq_mod, Nat.shiftRight_eq_div_pow]
  unfold by4
  rw [e, J_toInt (by omega) (by have := Nat.mod_lt (W / 2 ^ p) (show 256 > 0 by decide); omega)]
/-- a word of signs, t of them -/
def wv (c : Nat → Nat) (m : Nat) : Nat → Nat
  | 0 => 0
  | t + 1 => wv c m t * 256 + c (4 * m + t)
theorem by4_w {c : Nat → Nat} {m : Nat} (hc : ∀ i, c i < 128) : by4 (J (wv c m 4 : Nat)) 24 = (c (4 * m) : Nat) ∧ by4 (J (wv c m 4 : Nat)) 16 = (c (4 * m + 1) : Nat) ∧ by4 (J (wv c m 4 : Nat)) 8 = (c (4 * m + 2) : Nat) ∧ by4 (J (wv c m 4 : Nat)) 0 = (c (4 * m + 3) : Nat) := by
  have h0 := hc (4 * m)
  have h1 := hc (4 * m + 1)
  have h2 := hc (4 * m + 2)
  have h3 := hc (4 * m + 3)
  have e : wv c m 4 = (((0 * 256 + c (4 * m)) * 256 + c (4 * m + 1)) * 256 + c (4 * m + 2)) * 256 + c (4 * m + 3) := rfl
  have hW : wv c m 4 < 2147483648 := by omega
  have q24 := by4_p (p := 24) hW (by decide)
  have q16 := by4_p (p := 16) hW (by decide)
  have q8 := by4_p (p := 8) hW (by decide)
  have q0 := by4_p (p := 0) hW (by decide)
  refine ⟨Eq.trans q24 ?_, Eq.trans q16 ?_, Eq.trans q8 ?_, Eq.trans q0 ?_⟩ <;> congr 1 <;> omega
theorem CB_cg {B B' : Nat → Int} (h : CB v a n B) (he : ∀ i, i < n → B i = B' i) : CB v a n B' := by
  obtain ⟨c1, c2, c3⟩ := h
  exact ⟨c1, fun i hi => by rw [← he i hi]; exact c2 i hi, fun i hi => by rw [← he i hi]; exact c3 i hi⟩
theorem word_ok {c : Nat → Nat} {m : Nat} (hN : 100 ≤ N) (hL : gcL S a) (hC : CB v a n T) (h1 : rw v (a + 1) 1 = J (n : Int)) (hn : n + 4 ≤ 500) (hc : ∀ i, c i < 128) (hT : ∀ i, i < 4 → T (n + i) = (c (4 * m + i) : Nat)) :
    ∃ v', F_tx_append N (a + 1) (J (wv c m 4 : Nat)) S v = some v' ∧ CB v' a (n + 4) T ∧ rw v' (a + 1) = up (rw v (a + 1)) 1 (J ((n + 4 : Nat) : Int)) ∧ fri (a + 1) 2 v v' := by
  obtain ⟨v', e1, e2, e3, e4⟩ := tx_word4 (b := J (wv c m 4 : Nat)) hN hL hC h1 hn
  refine ⟨v', e1, CB_cg e2 (fun i hi => ?_), e3, e4⟩
  obtain ⟨b0, b1, b2, b3⟩ := by4_w (m := m) hc
  have t0 := hT 0 (by decide)
  have t1 := hT 1 (by decide)
  have t2 := hT 2 (by decide)
  have t3 := hT 3 (by decide)
  rw [Nat.add_zero] at t0
  rw [Nat.add_zero] at t0
  unfold put4 put1
  rw [b0, b1, b2, b3]
  by_cases z3 : i = n + 3
  · rw [if_pos z3, z3, t3]
  · rw [if_neg z3]
    by_cases z2 : i = n + 2
    · rw [if_pos z2, z2, t2]
    · rw [if_neg z2]
      by_cases z1 : i = n + 1
      · rw [if_pos z1, z1, t1]
      · rw [if_neg z1]
        by_cases z0 : i = n
        · rw [if_pos z0, z0, t0]
        · rw [if_neg z0]
/-- five words -/
def RR (c : Nat → Nat) (i : Nat) : Nat → Int32 := fun m => J (wv c m (min 4 (i - 4 * m)) : Nat)
theorem RR_s {c : Nat → Nat} {m t : Nat} (ht : t < 4) : up (RR c (4 * m + t)) m (J (wv c m (t + 1) : Nat)) = RR c (4 * m + t + 1) := by
  funext y
  by_cases z : y = m
  · rw [z, up_same]
    unfold RR
    rw [show min 4 (4 * m + t + 1 - 4 * m) = t + 1 by omega]
  · rw [up_ne z]
    unfold RR
    rw [show min 4 (4 * m + t - 4 * y) = min 4 (4 * m + t + 1 - 4 * y) by omega]
/-- a sign of the string -/
theorem asL_m (h : k < L.length) : asL L k ∈ L := by
  unfold asL
  rw [List.getElem?_eq_getElem h]
  exact List.getElem_mem h
theorem ch_128 : ∀ c : Fin 128, UInt32.toInt32 (Int32.toUInt32 (J ((c.val : Nat) : Int)) % 65536) = J ((c.val : Nat) : Int) ∧ narrow .char (.int (J ((c.val : Nat) : Int))) = .int (J ((c.val : Nat) : Int)) := by decide +kernel
def ascL (L : List Int) : Prop := ∀ y, y ∈ L → 0 ≤ y ∧ y < 128
theorem st_len (h : STR S v s q L) (hl : L.length ≤ 200) : F_js_length_m s S v = some (J (L.length : Int)) := by
  obtain ⟨h1, h2, h3, h4, h5⟩ := h
  unfold F_js_length_m F_js_coder_m
  rw [grd_true _ h1, h3, Option.bind_some, grd_true _ ⟨2, L.length, h4, by decide⟩, grd_true _ h1, gi_rw, h2, grd_true _ (by decide), Option.bind_some, alen_of h4, shr_0]
  rfl
theorem st_char (h : STR S v s q L) (hl : L.length ≤ 200) (hA : ascL L) (hk : k < L.length) : F_js_charAt_m s (J (k : Int)) S v = some (J (asL L k)) := by
  obtain ⟨h1, h2, h3, h4, h5⟩ := h
  have tk : (J (k : Int)).toInt = ((k : Nat) : Int) := J_toInt (by omega) (by omega)
  have el : nI (alen S q) = J (L.length : Int) := by rw [alen_of h4]; rfl
  obtain ⟨a1, a2⟩ := hA _ (asL_m hk)
  obtain ⟨n1, n2⟩ := ch_128 ⟨(asL L k).toNat, by omega⟩
  have ec : (((asL L k).toNat : Nat) : Int) = asL L k := by omega
  simp only [ec] at n1 n2
  unfold F_js_charAt_m F_js_isLatin1_m
  rw [grd_true _ h1, grd_true _ h1, gi_rw, h2, if_pos rfl, Option.bind_some, if_neg (by decide), h3, Option.bind_some]
  unfold F_l1_charAt F_js_checkIndex F_pr_checkIndex
  rw [grd_true _ ⟨2, L.length, h4, by decide⟩, el, if_neg (fun w => by have := (J_lt (by omega) (by decide)).mp w; omega), if_pos ((J_lt (by omega) (by omega)).mpr (by omega)), Option.bind_some]
  simp only [Option.bind_some]
  rw [grd_true _ (Or.inl (by rw [alen_of h4]; exact h4)), grd_true _ (vin_of h4 tk hk), clampT tk, gi_rw, lt_def, h5 k hk, n1, grd_true _ n2, Option.bind_some, grd_true _ n2]
end LAWTOLD
