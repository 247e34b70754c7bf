/-! The text that is read: tokens on both sides. -/
section TOKENS
variable {S : shp} {v w : vl} {a m N n : Nat} {B : Nat → Int} {z : Nat → Int} {R0 R Q : Nat → Int32} {ln : Nat → Nat} {W : Nat → Nat → Int}
/-- a text's character -/
def chC (x : Int32) : Int32 := UInt32.toInt32 (Int32.toUInt32 (x &&& (J 255)) % 65536)
/-- the word at a constant's address -/
def wdT (S : shp) (v : vl) (a j len : Nat) (W : Nat → Int) : Prop := kin S (kad S j) = some (20, 0) ∧ kad S j < a ∧ rw v (kad S j) 1 = J 0 ∧ (len ≤ 100 ∧ nI len >>> (J 0 &&& 31) = J (len : Int)) ∧ ∃ r, gr S (kad S j) 0 = some r ∧ r < a ∧ kin S r = some (12, len) ∧ ∀ k, k < len → (0 ≤ W k ∧ W k ≤ 255) ∧ chC (rw v r k) = J (W k) ∧ narrow .char (.int (J (W k))) = .int (J (W k))
def wdS (S : shp) (v : vl) (a : Nat) (ln : Nat → Nat) (W : Nat → Nat → Int) : Prop := ∀ j, 10 ≤ j → j ≤ 16 → wdT S v a j (ln j) (W j)
theorem wdT_eq {v' : vl} {j len : Nat} {X : Nat → Int} (h : wdT S v a j len X) (he : ∀ b, b < a → rw v' b = rw v b) : wdT S v' a j len X := by
  obtain ⟨h1, h2, h3, h4, r, g1, g2, g3, g4⟩ := h
  refine ⟨h1, h2, by rw [he _ h2]; exact h3, h4, r, g1, g2, g3, fun k hk => ?_⟩
  rw [he _ g2]
  exact g4 k hk
theorem wdS_eq {v' : vl} (h : wdS S v a ln W) (he : ∀ b, b < a → rw v' b = rw v b) : wdS S v' a ln W := fun j h1 h2 => wdT_eq (h j h1 h2) he
theorem wd_len {j len : Nat} {X : Nat → Int} (h : wdT S v a j len X) : F_js_length (kad S j) S v = some (J (len : Int)) := by
  obtain ⟨h1, h2, h3, h4, r, g1, g2, g3, g4⟩ := h
  unfold F_js_length F_js_coder
  rw [grd_true _ h1, g1]
  simp only [Option.bind_some]
  rw [grd_true _ ⟨12, len, g3, by decide⟩, grd_true _ h1, gi_rw, h3, grd_true _ (by decide)]
  simp only [Option.bind_some]
  rw [alen_of g3, h4.2]
theorem wd_char {j len k : Nat} {X : Nat → Int} (h : wdT S v a j len X) (hk : k < len) : F_js_charAt (kad S j) (J (k : Int)) S v = some (J (X k)) := by
  obtain ⟨h1, h2, h3, h4, r, g1, g2, g3, g4⟩ := h
  obtain ⟨x1, x2, x3⟩ := g4 k hk
  have tk : (J (k : Int)).toInt = (k : Int) := J_toInt (by omega) (by omega)
  have el : nI (alen S r) = J (len : Int) := by rw [alen_of g3]; rfl
  unfold F_js_charAt F_js_isLatin1
  rw [grd_true _ h1, grd_true _ h1, gi_rw, h3, if_pos rfl]
  simp only [Option.bind_some]
  rw [if_neg (by decide), g1]
  simp only [Option.bind_some]
  unfold F_l1_charAt F_js_checkIndex F_pr_checkIndex
  rw [grd_true _ ⟨12, len, g3, by decide⟩, el, if_neg (fun w => by have := (J_lt (by omega) (by decide)).mp w; omega), if_pos ((J_lt (by omega) (by omega)).mpr (by omega))]
  simp only [Option.bind_some]
  rw [grd_true _ (Or.inr (by rw [alen_of g3]; exact g3)), grd_true _ (vin_of g3 tk hk), clampT tk, gi_rw]
  simp only [lt_def]
  rw [show UInt32.toInt32 (Int32.toUInt32 (rw v r k &&& J 255) % 65536) = J (X k) from x2, grd_true _ x3]
  simp only [Option.bind_some]
  rw [grd_true _ x3]
/-- the class's reader, the model's -/
def CS (S : shp) (v : vl) (a n : Nat) (B : Nat → Int) (ln : Nat → Nat) (W : Nat → Nat → Int) (z : Nat → Int) : Prop := CB v a n B ∧ wdS S v a ln W ∧ CR n (rw v (a + 1)) z
theorem CS_wr {z' : Nat → Int} (h : CS S v a n B ln W z) (hR : CR n R z') : CS S (wr v (a + 1) R) a n B ln W z' := by
  obtain ⟨⟨c1, c2, c3⟩, hw, -⟩ := h
  refine ⟨⟨c1, c2, fun i hi => by rw [rw_wr_ne (by omega)]; exact c3 i hi⟩, wdS_eq hw (fun b hb => rw_wr_ne (by omega)), by rw [rw_wr]; exact hR⟩
theorem tx_advS (hN : 1000 ≤ N) (hL : gcL S a) (h : CS S v a n B ln W z) (h10 : 0 ≤ z 10 ∧ z 10 ≤ n) : ∃ R', F_tx_advance N (a + 1) S v = some (wr v (a + 1) R') ∧ CS S (wr v (a + 1) R') a n B ln W (adZ B n z) := by
  obtain ⟨R', e1, e2⟩ := CR_adv hN hL h.1 h.2.2 h10
  rw [wr_self] at e1
  exact ⟨R', e1, CS_wr h e2⟩
/-- a code, where the token begins -/
def flZ (x : Int) (z : Nat → Int) : Nat → Int := fun k => if k = 2 then x else if k = 3 then z 9 else z k
theorem tx_failS {x : Int} (hL : gcL S a) (h : CS S v a n B ln W z) : ∃ R', F_tx_fail (a + 1) (J x) S v = some (J 0, wr v (a + 1) R') ∧ CS S (wr v (a + 1) R') a n B ln W (flZ x z) := by
  have hR := h.2.2
  refine ⟨up (up (rw v (a + 1)) 2 (J x)) 3 (J (z 9)), ?_, CS_wr h ⟨?_, fun k h2 h13 => ?_⟩⟩
  · unfold F_tx_fail
    rw [grd_true _ hL.2.1.1]
    simp only [lt_def, si_wr, gi_x, rw_wr, wr_wr]
    rw [up_ne (by decide), hR.2 9 (by decide) (by decide)]
  · rw [up_ne (by decide), up_ne (by decide)]; exact hR.1
  · unfold flZ
    by_cases k2 : k = 2
    · subst k2; rw [up_ne (by decide), up_same, if_pos rfl]
    · rw [if_neg k2]
      by_cases k3 : k = 3
      · subst k3; rw [up_same, if_pos rfl]
      · rw [if_neg k3, up_ne k3, up_ne k2]; exact hR.2 k h2 h13
def p12 (x : Int) (z : Nat → Int) : Nat → Int := fun k => if k = 12 then x else z k
-- a number within lo and hi
def okN (lo hi : Int) (z : Nat → Int) : Prop := z 8 = 2 ∧ lo ≤ z 11 ∧ z 11 ≤ hi
def cdN (z : Nat → Int) : Int := if z 8 = 2 then 2 else 1
def tnR (lo hi : Int) : Prop := (-2147483648 ≤ lo ∧ lo < 2147483648) ∧ (-2147483648 ≤ hi ∧ hi < 2147483648)
theorem tx_take {lo hi : Int} (hN : 1000 ≤ N) (hL : gcL S a) (h : CS S v a n B ln W z) (hz : zI n z) (hr : tnR lo hi) :
    (okN lo hi z → ∃ R', F_tx_takeNumber N (a + 1) (J lo) (J hi) S v = some (J 1, wr v (a + 1) R') ∧ CS S (wr v (a + 1) R') a n B ln W (adZ B n (p12 (z 11) z))) ∧
    (¬ okN lo hi z → ∃ R', F_tx_takeNumber N (a + 1) (J lo) (J hi) S v = some (J 0, wr v (a + 1) R') ∧ CS S (wr v (a + 1) R') a n B ln W (flZ (cdN z) z)) := by
  obtain ⟨z2, z9, z8, z11, z5, z0⟩ := id hz
  have hR := h.2.2
  have r8 : gi v (a + 1) 8 = J (z 8) := by rw [gi_rw]; exact hR.2 8 (by decide) (by decide)
  have r11 : gi v (a + 1) 11 = J (z 11) := by rw [gi_rw]; exact hR.2 11 (by decide) (by decide)
  have e8 : (J (z 8) = J 2) ↔ z 8 = 2 := J_eq (by omega) (by decide)
  obtain ⟨hlo, hhi⟩ := hr
  constructor
  · rintro ⟨o8, o1, o2⟩
    have b11 := z11 o8
    have hC : CS S (wr v (a + 1) (up (rw v (a + 1)) 12 (J (z 11)))) a n B ln W (p12 (z 11) z) := by
      refine CS_wr h ⟨by rw [up_ne (by decide)]; exact hR.1, fun k h2 h13 => ?_⟩
      unfold p12
      by_cases k12 : k = 12
      · subst k12; rw [up_same, if_pos rfl]
      · rw [if_neg k12, up_ne k12]; exact hR.2 k h2 h13
    obtain ⟨R', e1, e2⟩ := tx_advS (N := N) hN hL hC (zI_10 hz)
    refine ⟨R', ?_, by rw [wr_wr] at e2; exact e2⟩
    unfold F_tx_takeNumber
    rw [grd_true _ hL.2.1.1, r8, if_pos (e8.mpr o8), r11, if_neg (fun w => by have := (J_lt (by omega) hlo).mp w; omega), if_neg (fun w => by have := (J_lt hhi (by omega)).mp w; omega)]
    simp only [lt_def, si_wr]
    rw [e1]
    simp only [Option.bind_some]
    rw [wr_wr]
  · intro no
    unfold F_tx_takeNumber
    rw [grd_true _ hL.2.1.1, r8]
    by_cases o8 : z 8 = 2
    · have b11 := z11 o8
      have c2 : cdN z = 2 := if_pos o8
      obtain ⟨R', e1, e2⟩ := tx_failS (x := 2) hL h
      rw [if_pos (e8.mpr o8), r11, c2]
      by_cases l1 : z 11 < lo
      · rw [if_pos ((J_lt (by omega) hlo).mpr l1), e1]
        simp only [Option.bind_some]
        rw [grd_true _ (by decide)]
        exact ⟨R', rfl, e2⟩
      · rw [if_neg (fun w => l1 ((J_lt (by omega) hlo).mp w)), if_pos ((J_lt hhi (by omega)).mpr (by
          by_cases q : hi < z 11
          · exact q
          · exact absurd ⟨o8, by omega, by omega⟩ no)), e1]
        simp only [Option.bind_some]
        rw [grd_true _ (by decide)]
        exact ⟨R', rfl, e2⟩
    · have c1 : cdN z = 1 := if_neg o8
      obtain ⟨R', e1, e2⟩ := tx_failS (x := 1) hL h
      rw [if_neg (fun w => o8 (e8.mp w)), c1, e1]
      simp only [Option.bind_some]
      rw [grd_true _ (by decide)]
      exact ⟨R', rfl, e2⟩
-- a semicolon
theorem tx_semi (hN : 1000 ≤ N) (hL : gcL S a) (h : CS S v a n B ln W z) (hz : zI n z) :
    (z 8 = 3 → ∃ R', F_tx_takeSemicolon N (a + 1) S v = some (J 1, wr v (a + 1) R') ∧ CS S (wr v (a + 1) R') a n B ln W (adZ B n z)) ∧
    (z 8 ≠ 3 → ∃ R', F_tx_takeSemicolon N (a + 1) S v = some (J 0, wr v (a + 1) R') ∧ CS S (wr v (a + 1) R') a n B ln W (flZ 1 z)) := by
  have z8 := hz.2.2.1
  have r8 : gi v (a + 1) 8 = J (z 8) := by rw [gi_rw]; exact h.2.2.2 8 (by decide) (by decide)
  have e8 : (J (z 8) = J 3) ↔ z 8 = 3 := J_eq (by omega) (by decide)
  unfold F_tx_takeSemicolon
  rw [grd_true _ hL.2.1.1, r8]
  constructor
  · intro o
    obtain ⟨R', e1, e2⟩ := tx_advS (N := N) hN hL h (zI_10 hz)
    rw [if_pos (e8.mpr o), e1]
    exact ⟨R', rfl, e2⟩
  · intro no
    obtain ⟨R', e1, e2⟩ := tx_failS (x := 1) hL h
    rw [if_neg (fun y => no (e8.mp y)), e1]
    simp only [Option.bind_some]
    rw [grd_true _ (by decide)]
    exact ⟨R', rfl, e2⟩
-- a word
def wdX (B X : Nat → Int) (s : Nat) : Nat → Nat → Int
  | 0, _ => 1
  | k + 1, j => if B (s + j) = X j then wdX B X s k (j + 1) else 0
theorem wdX_s {X : Nat → Int} {s k j : Nat} : wdX B X s (k + 1) j = if B (s + j) = X j then wdX B X s k (j + 1) else 0 := rfl
def wdZ (B : Nat → Int) (z : Nat → Int) (len : Nat) (X : Nat → Int) : Int := if z 8 = 1 then (if z 10 - z 9 = (len : Int) then wdX B X (z 9).toNat len 0 else 0) else 0
theorem tx_word {j : Nat} (hN : 1000 ≤ N) (hL : gcL S a) (h : CS S v a n B ln W z) (hz : zI n z) (hj : 10 ≤ j ∧ j ≤ 16) : F_tx_isWord N (a + 1) (kad S j) S v = some (J (wdZ B z (ln j) (W j))) := by
  obtain ⟨z2, z9, z8, z11, z5, z0⟩ := id hz
  obtain ⟨hC, hw, hR⟩ := h
  have wd := hw j hj.1 hj.2
  have n5 := hC.1
  have l100 := wd.2.2.2.1.1
  have r8 : gi v (a + 1) 8 = J (z 8) := by rw [gi_rw]; exact hR.2 8 (by decide) (by decide)
  have r9 : gi v (a + 1) 9 = J (z 9) := by rw [gi_rw]; exact hR.2 9 (by decide) (by decide)
  have r10 : gi v (a + 1) 10 = J (z 10) := by rw [gi_rw]; exact hR.2 10 (by decide) (by decide)
  have loop : z 10 - z 9 = (ln j : Int) → ∀ (k i F : Nat), i + k = ln j → k < F → K_tx_isWord_28 N F S v (a + 1) (kad S j) (J (i : Int)) = some (J (wdX B (W j) (z 9).toNat k i)) := by
    intro hlen k
    induction k with
    | zero =>
      intro i F hk hF
      obtain ⟨F', eF⟩ : ∃ F', F = F' + 1 := ⟨F - 1, by omega⟩
      subst eF
      show Y_tx_isWord_28 N (K_tx_isWord_28 N F' S v) S v (a + 1) (kad S j) (J (i : Int)) = _
      unfold Y_tx_isWord_28
      rw [grd_true _ wd.1, wd_len wd]
      simp only [Option.bind_some]
      rw [if_neg (fun y => by have := (J_lt (by omega) (by omega)).mp y; omega)]
      rfl
    | succ k IH =>
      intro i F hk hF
      obtain ⟨F', eF⟩ : ∃ F', F = F' + 1 := ⟨F - 1, by omega⟩
      subst eF
      have eb : btZ B n ((z 9).toNat + i) = B ((z 9).toNat + i) := if_pos (by omega)
      have bb := hC.2.1 ((z 9).toNat + i) (by omega)
      have ea : J (z 9) + J (i : Int) = J ((((z 9).toNat + i : Nat)) : Int) := by rw [← J_add]; congr 1; omega
      have tb := tx_byte (R := rw v (a + 1)) (i := (z 9).toNat + i) hL hC hR.1 (by omega)
      rw [wr_self, eb] at tb
      obtain ⟨-, -, -, -, r, g1, g2, g3, g4⟩ := id wd
      have wb := (g4 i (by omega)).1
      show Y_tx_isWord_28 N (K_tx_isWord_28 N F' S v) S v (a + 1) (kad S j) (J (i : Int)) = _
      unfold Y_tx_isWord_28
      rw [grd_true _ wd.1, wd_len wd]
      simp only [Option.bind_some]
      rw [if_pos ((J_lt (by omega) (by omega)).mpr (by omega)), grd_true _ hL.2.1.1, r9, ea, tb]
      simp only [Option.bind_some]
      rw [wd_char wd (by omega)]
      simp only [Option.bind_some]
      rw [wdX_s]
      by_cases q : B ((z 9).toNat + i) = W j i
      · rw [if_pos (by rw [q]), if_pos q, J_s]
        exact IH (i + 1) F' (by omega) (by omega)
      · rw [if_neg (fun y => q ((J_eq (by omega) (by omega)).mp y)), if_neg q]
  unfold F_tx_isWord wdZ
  rw [grd_true _ hL.2.1.1, r8]
  by_cases o1 : z 8 = 1
  · rw [if_pos (by rw [o1]), if_pos o1, grd_true _ wd.1, wd_len wd]
    simp only [Option.bind_some]
    rw [r10, r9, ← J_sub]
    by_cases o2 : z 10 - z 9 = (ln j : Int)
    · rw [if_pos (by rw [o2]), if_pos o2]
      exact loop o2 (ln j) 0 N (by omega) (by omega)
    · rw [if_neg (fun y => o2 ((J_eq (by omega) (by omega)).mp y)), if_neg o2]
  · rw [if_neg (fun y => o1 ((J_eq (by omega) (by decide)).mp y)), if_neg o1]
end TOKENS
