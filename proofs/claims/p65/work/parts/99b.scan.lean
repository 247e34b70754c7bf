/-! The text that is read: tokens, as the class finds them. -/
section SCAN
variable {S : shp} {v : vl} {a m N n : Nat} {B : Nat → Int} {z : Nat → Int}
def kdZ (b : Int) : Int := if b = -1 then 0 else if 97 ≤ b ∧ b ≤ 122 then 1 else if 48 ≤ b ∧ b ≤ 57 then 2 else if b = 59 then 3 else if b = 45 then 4 else 5
def btZ (B : Nat → Int) (n i : Nat) : Int := if i < n then B i else -1
/-- the first place from i on, within k, where P fails -/
def fz (P : Nat → Bool) : Nat → Nat → Nat
  | 0, i => i
  | k + 1, i => if P i = true then fz P k (i + 1) else i
theorem fz_s {P : Nat → Bool} {k i : Nat} : fz P (k + 1) i = if P i = true then fz P k (i + 1) else i := rfl
theorem fz_0 {P : Nat → Bool} {i : Nat} : fz P 0 i = i := rfl
theorem fz_B {P : Nat → Bool} : ∀ (k i : Nat), i ≤ fz P k i ∧ fz P k i ≤ i + k ∧ ∀ j, i ≤ j → j < fz P k i → P j = true
  | 0, i => ⟨Nat.le_refl _, Nat.le_refl _, fun j h1 h2 => by rw [fz_0] at h2; omega⟩
  | k + 1, i => by
    rw [fz_s]
    by_cases q : P i = true
    · obtain ⟨h1, h2, h3⟩ := fz_B (P := P) k (i + 1)
      rw [if_pos q]
      refine ⟨by omega, by omega, fun j h4 h5 => ?_⟩
      by_cases e : j = i
      · rw [e]; exact q
      · exact h3 j (by omega) h5
    · rw [if_neg q]
      exact ⟨Nat.le_refl _, by omega, fun j h1 h2 => by omega⟩
def spP (B : Nat → Int) (i : Nat) : Bool := decide (B i = 32 ∨ B i = 10)
def knP (B : Nat → Int) (κ : Int) (i : Nat) : Bool := decide (kdZ (B i) = κ)
theorem spP_t {i : Nat} : spP B i = true ↔ (B i = 32 ∨ B i = 10) := decide_eq_true_iff
theorem knP_t {i : Nat} {κ : Int} : knP B κ i = true ↔ kdZ (B i) = κ := decide_eq_true_iff
def stZ (B : Nat → Int) (n i : Nat) : Nat := fz (spP B) (n - i) i
def tkK (B : Nat → Int) (n i : Nat) : Int := kdZ (btZ B n (stZ B n i))
def enZ (B : Nat → Int) (n i : Nat) : Nat := if tkK B n i = 0 then stZ B n i else if tkK B n i = 1 ∨ tkK B n i = 2 then fz (knP B (tkK B n i)) (n - (stZ B n i + 1)) (stZ B n i + 1) else stZ B n i + 1
def nmZ (B : Nat → Int) (i : Nat) : Nat → Int
  | 0 => 0
  | k + 1 => nmZ B i k * 10 + B (i + k) - 48
/-- the next token; z: 2 code, 3 offset, 5-7 what was seen, 8 kind, 9 start, 10 end, 11 number, 12 what was taken -/
def adZ (B : Nat → Int) (n : Nat) (z : Nat → Int) : Nat → Int := fun k => if k = 8 then (if tkK B n (z 10).toNat = 2 ∧ 6 < enZ B n (z 10).toNat - stZ B n (z 10).toNat then 5 else tkK B n (z 10).toNat) else if k = 9 then ((stZ B n (z 10).toNat : Nat) : Int) else if k = 10 then ((enZ B n (z 10).toNat : Nat) : Int) else if k = 11 then (if tkK B n (z 10).toNat = 2 ∧ ¬ 6 < enZ B n (z 10).toNat - stZ B n (z 10).toNat then nmZ B (stZ B n (z 10).toNat) (enZ B n (z 10).toNat - stZ B n (z 10).toNat) else z 11) else z k
theorem kdZ_B {b : Int} : 0 ≤ kdZ b ∧ kdZ b ≤ 5 := by
  unfold kdZ
  split
  · decide
  · split
    · decide
    · split
      · decide
      · split
        · decide
        · split <;> decide
/-- the scan of the next token stays within the text -/
theorem tk_B {i : Nat} (hi : i ≤ n) (hB : ∀ j, j < n → 0 ≤ B j ∧ B j ≤ 255) : i ≤ stZ B n i ∧ stZ B n i ≤ enZ B n i ∧ enZ B n i ≤ n ∧ (tkK B n i ≠ 0 → stZ B n i < enZ B n i ∧ stZ B n i < n) ∧ (tkK B n i = 1 ∨ tkK B n i = 2 → ∀ j, stZ B n i ≤ j → j < enZ B n i → kdZ (B j) = tkK B n i) := by
  obtain ⟨s1, s2, s3⟩ := fz_B (P := spP B) (n - i) i
  have s1' : i ≤ stZ B n i := s1
  have s2' : stZ B n i ≤ n := by have : stZ B n i ≤ i + (n - i) := s2; omega
  have k0 : tkK B n i ≠ 0 → stZ B n i < n := fun h => by
    by_cases q : stZ B n i < n
    · exact q
    · exfalso
      apply h
      unfold tkK btZ
      rw [if_neg q]
      rfl
  by_cases e0 : tkK B n i = 0
  · have ee : enZ B n i = stZ B n i := if_pos e0
    rw [ee]
    exact ⟨s1', Nat.le_refl _, s2', fun h => absurd e0 h, fun h => by omega⟩
  · have hs := k0 e0
    by_cases e1 : tkK B n i = 1 ∨ tkK B n i = 2
    · have ee : enZ B n i = fz (knP B (tkK B n i)) (n - (stZ B n i + 1)) (stZ B n i + 1) := (if_neg e0).trans (if_pos e1)
      obtain ⟨f1, f2, f3⟩ := fz_B (P := knP B (tkK B n i)) (n - (stZ B n i + 1)) (stZ B n i + 1)
      rw [ee]
      refine ⟨s1', by omega, by omega, fun _ => ⟨by omega, hs⟩, fun _ j h1 h2 => ?_⟩
      by_cases z : j = stZ B n i
      · rw [z]
        show _ = kdZ (btZ B n (stZ B n i))
        unfold btZ
        rw [if_pos hs]
      · exact knP_t.mp (f3 j (by omega) h2)
    · have ee : enZ B n i = stZ B n i + 1 := (if_neg e0).trans (if_neg e1)
      rw [ee]
      exact ⟨s1', by omega, by omega, fun _ => ⟨by omega, hs⟩, fun h => absurd h e1⟩
def zI (n : Nat) (z : Nat → Int) : Prop := z 2 = 0 ∧ (0 ≤ z 9 ∧ z 9 ≤ z 10 ∧ z 10 ≤ n) ∧ (0 ≤ z 8 ∧ z 8 ≤ 5) ∧ (z 8 = 2 → 0 ≤ z 11 ∧ z 11 ≤ 999999) ∧ ((z 5 = 0 ∨ z 5 = 1) ∧ (z 6 = 0 ∨ z 6 = 1) ∧ (z 7 = 0 ∨ z 7 = 1)) ∧ (z 8 ≠ 0 → z 9 < z 10)
theorem zI_10 (h : zI n z) : 0 ≤ z 10 ∧ z 10 ≤ n := ⟨Int.le_trans h.2.1.1 h.2.1.2.1, h.2.1.2.2⟩
-- the class
theorem up_id {f : Nat → Int32} {k : Nat} {x : Int32} (h : f k = x) : up f k x = f := by rw [← h]; exact up_self
/-- the bytes that the class holds -/
def CB (v : vl) (a n : Nat) (B : Nat → Int) : Prop := n ≤ 500 ∧ (∀ j, j < n → 0 ≤ B j ∧ B j ≤ 255) ∧ ∀ i, i < n → rw v (a + 2) i &&& J 255 = J (B i)
theorem tx_byte {R : Nat → Int32} {i : Nat} (hL : gcL S a) (hC : CB v a n B) (r1 : R 1 = J (n : Int)) (hi : i < 1000) : F_tx_byteAt (a + 1) (J (i : Int)) S (wr v (a + 1) R) = some (J (btZ B n i)) := by
  obtain ⟨c1, -, c3⟩ := hC
  obtain ⟨-, ⟨k1, g1, k2, g4⟩, -⟩ := hL
  have ti : (J (i : Int)).toInt = (i : Int) := J_toInt (by omega) (by omega)
  unfold F_tx_byteAt btZ
  rw [if_neg (fun w => by have := (J_lt (by omega) (by decide)).mp w; omega), grd_true _ k1, gi_rw, rw_wr, r1]
  by_cases q : i < n
  · rw [if_pos ((J_lt (by omega) (by omega)).mpr (by omega)), if_pos q, g1]
    simp only [Option.bind_some]
    rw [grd_true _ k2, grd_true _ (vin_of k2 ti (by omega)), clampT ti, gi_rw, rw_wr_ne (by omega), c3 i q]
  · rw [if_neg (fun w => by have := (J_lt (by omega) (by omega)).mp w; omega), if_neg q]
theorem tx_kind {b : Int} (hb : -1 ≤ b ∧ b ≤ 255) : F_tx_kindOf (J b) S v = some (J (kdZ b)) := by
  have e1 : (J b = J (-1)) ↔ b = -1 := J_eq (by omega) (by decide)
  have e2 : (J b < J 97) ↔ b < 97 := J_lt (by omega) (by decide)
  have e3 : (J 122 < J b) ↔ 122 < b := J_lt (by decide) (by omega)
  have e4 : (J b < J 48) ↔ b < 48 := J_lt (by omega) (by decide)
  have e5 : (J 57 < J b) ↔ 57 < b := J_lt (by decide) (by omega)
  have e6 : (J b = J 59) ↔ b = 59 := J_eq (by omega) (by decide)
  have e7 : (J b = J 45) ↔ b = 45 := J_eq (by omega) (by decide)
  unfold F_tx_kindOf K_tx_kindOf_21 kdZ
  simp only [e1, e2, e3, e4, e5, e6, e7]
  repeat' split
  all_goals first | rfl | (exfalso; omega)
theorem tx_space {b : Int} (hb : -1 ≤ b ∧ b ≤ 255) : F_tx_isSpace (J b) S v = some (if b = 32 ∨ b = 10 then J 1 else J 0) := by
  have e1 : (J b = J 32) ↔ b = 32 := J_eq (by omega) (by decide)
  have e2 : (J b = J 10) ↔ b = 10 := J_eq (by omega) (by decide)
  unfold F_tx_isSpace
  simp only [e1, e2]
  repeat' split
  all_goals first | rfl | (exfalso; omega)
theorem btZ_B {i : Nat} (hB : ∀ j, j < n → 0 ≤ B j ∧ B j ≤ 255) : -1 ≤ btZ B n i ∧ btZ B n i ≤ 255 := by
  unfold btZ
  split
  · rename_i h
    have := hB i h
    omega
  · omega
theorem tx_skip (hL : gcL S a) (hC : CB v a n B) : ∀ (k i F : Nat) (R : Nat → Int32), i + k = n → k < F → R 1 = J (n : Int) → R 9 = J (i : Int) →
    K_tx_advance_13 N F S (wr v (a + 1) R) (a + 1) (J (i : Int)) = K_tx_advance_45 N S (wr v (a + 1) (up R 9 (J ((fz (spP B) k i : Nat) : Int)))) (a + 1)
  | _, _, 0, _, _, h, _, _ => absurd h (Nat.not_lt_zero _)
  | 0, i, F + 1, R, hk, _, r1, r9 => by
    have n5 := hC.1
    show Y_tx_advance_13 N (K_tx_advance_13 N F S) S (wr v (a + 1) R) (a + 1) (J (i : Int)) = _
    unfold Y_tx_advance_13
    rw [grd_true _ hL.2.1.1, gi_rw, rw_wr, r1, if_neg (fun w => by have := (J_lt (by omega) (by omega)).mp w; omega), fz_0, up_id r9]
  | k + 1, i, F + 1, R, hk, hF, r1, r9 => by
    have n5 := hC.1
    have bb := btZ_B (i := i) hC.2.1
    have eb : btZ B n i = B i := if_pos (by omega)
    show Y_tx_advance_13 N (K_tx_advance_13 N F S) S (wr v (a + 1) R) (a + 1) (J (i : Int)) = _
    unfold Y_tx_advance_13
    rw [grd_true _ hL.2.1.1, gi_rw, rw_wr, r1, if_pos ((J_lt (by omega) (by omega)).mpr (by omega)), tx_byte hL hC r1 (by omega)]
    simp only [Option.bind_some]
    rw [tx_space bb]
    simp only [Option.bind_some]
    rw [fz_s]
    by_cases q : B i = 32 ∨ B i = 10
    · rw [if_pos (spP_t.mpr q), eb, if_pos q, if_neg (show ¬ J 1 = J 0 by decide)]
      simp only [lt_def, si_wr, rw_wr, wr_wr]
      rw [J_s, tx_skip hL hC k (i + 1) F (up R 9 (J ((i + 1 : Nat) : Int))) (by omega) (by omega) (by rw [up_ne (by decide)]; exact r1) up_same, up_up]
    · rw [if_neg (fun w => q (spP_t.mp w)), eb, if_neg q, if_pos rfl, up_id r9]
/-- a token's end -/
noncomputable def finT (N a : Nat) (S : shp) (w : vl) : Option vl := if gi w (a + 1) 8 = J 2 then (F_tx_readDigits N (a + 1) S w).bind fun x => some x else some w
theorem tx_scan {κ : Int} (hκ : κ = 1 ∨ κ = 2) (hL : gcL S a) (hC : CB v a n B) : ∀ (k i F : Nat) (R : Nat → Int32), i + k = n → k < F → R 1 = J (n : Int) → R 8 = J κ → R 10 = J (i : Int) →
    K_tx_advance_111 N F S (wr v (a + 1) R) (a + 1) (J 1) (J (i : Int)) = finT N a S (wr v (a + 1) (up R 10 (J ((fz (knP B κ) k i : Nat) : Int))))
  | _, _, 0, _, _, h, _, _, _ => absurd h (Nat.not_lt_zero _)
  | 0, i, F + 1, R, hk, _, r1, r8, r10 => by
    have n5 := hC.1
    show Y_tx_advance_111 N (K_tx_advance_111 N F S) S (wr v (a + 1) R) (a + 1) (J 1) (J (i : Int)) = _
    unfold Y_tx_advance_111 finT
    rw [grd_true _ hL.2.1.1, gi_rw, rw_wr, r1, if_neg (fun w => by have := (J_lt (by omega) (by omega)).mp w; omega), fz_0, up_id r10]
  | k + 1, i, F + 1, R, hk, hF, r1, r8, r10 => by
    have n5 := hC.1
    have bb := btZ_B (i := i) hC.2.1
    have eb : btZ B n i = B i := if_pos (by omega)
    have kb := kdZ_B (b := B i)
    have ek : (J (kdZ (B i)) = J κ) ↔ kdZ (B i) = κ := J_eq (by omega) (by omega)
    show Y_tx_advance_111 N (K_tx_advance_111 N F S) S (wr v (a + 1) R) (a + 1) (J 1) (J (i : Int)) = _
    unfold Y_tx_advance_111
    rw [grd_true _ hL.2.1.1, gi_rw, rw_wr, r1, if_pos ((J_lt (by omega) (by omega)).mpr (by omega)), if_neg (show ¬ J 1 = J 0 by decide), tx_byte hL hC r1 (by omega)]
    simp only [Option.bind_some]
    rw [tx_kind bb, eb, fz_s]
    simp only [Option.bind_some]
    rw [gi_rw, rw_wr, r8]
    by_cases q : kdZ (B i) = κ
    · rw [if_pos (ek.mpr q), if_pos (knP_t.mpr q)]
      simp only [lt_def, si_wr, rw_wr, wr_wr]
      rw [J_s, tx_scan hκ hL hC k (i + 1) F (up R 10 (J ((i + 1 : Nat) : Int))) (by omega) (by omega) (by rw [up_ne (by decide)]; exact r1) (by rw [up_ne (by decide)]; exact r8) up_same, up_up]
    · rw [if_neg (fun w => q (ek.mp w)), if_neg (fun w => q (knP_t.mp w)), up_id r10]
      unfold finT
      rw [gi_rw, rw_wr, r8]
theorem tx_digits {s e : Nat} (he : e ≤ n) (hL : gcL S a) (hC : CB v a n B) : ∀ (k j F : Nat) (R : Nat → Int32), s + j + k = e → k < F → R 1 = J (n : Int) → R 10 = J (e : Int) → R 11 = J (nmZ B s j) →
    K_tx_readDigits_30 N F S (wr v (a + 1) R) (a + 1) (J ((s + j : Nat) : Int)) = some (wr v (a + 1) (up R 11 (J (nmZ B s (j + k)))))
  | _, _, 0, _, _, h, _, _, _ => absurd h (Nat.not_lt_zero _)
  | 0, j, F + 1, R, hk, _, r1, r10, r11 => by
    have n5 := hC.1
    show Y_tx_readDigits_30 N (K_tx_readDigits_30 N F S) S (wr v (a + 1) R) (a + 1) (J ((s + j : Nat) : Int)) = _
    unfold Y_tx_readDigits_30
    rw [grd_true _ hL.2.1.1, gi_rw, rw_wr, r10, if_neg (fun w => by have := (J_lt (by omega) (by omega)).mp w; omega)]
    show some (wr v (a + 1) R) = some (wr v (a + 1) (up R 11 (J (nmZ B s j))))
    rw [up_id r11]
  | k + 1, j, F + 1, R, hk, hF, r1, r10, r11 => by
    have n5 := hC.1
    have eb : btZ B n (s + j) = B (s + j) := if_pos (by omega)
    show Y_tx_readDigits_30 N (K_tx_readDigits_30 N F S) S (wr v (a + 1) R) (a + 1) (J ((s + j : Nat) : Int)) = _
    unfold Y_tx_readDigits_30
    rw [grd_true _ hL.2.1.1, gi_rw, rw_wr, r10, if_pos ((J_lt (by omega) (by omega)).mpr (by omega)), tx_byte hL hC r1 (by omega), eb]
    simp only [Option.bind_some, lt_def, si_wr, gi_x, rw_wr, wr_wr]
    rw [r11, ← J_mul, ← J_add, ← J_sub, J_s]
    have := tx_digits (s := s) he hL hC k (j + 1) F (up R 11 (J (nmZ B s j * 10 + B (s + j) - 48))) (by omega) (by omega) (by rw [up_ne (by decide)]; exact r1) (by rw [up_ne (by decide)]; exact r10) up_same
    rw [up_up, show j + 1 + k = j + (k + 1) by omega] at this
    exact this
theorem tx_rd {s e : Nat} {R : Nat → Int32} (hN : 1000 ≤ N) (hL : gcL S a) (hC : CB v a n B) (r1 : R 1 = J (n : Int)) (r9 : R 9 = J (s : Int)) (r10 : R 10 = J (e : Int)) (hs : s ≤ e ∧ e ≤ n) : F_tx_readDigits N (a + 1) S (wr v (a + 1) R) = some (wr v (a + 1) (if 6 < e - s then up R 8 (J 5) else up R 11 (J (nmZ B s (e - s))))) := by
  have n5 := hC.1
  unfold F_tx_readDigits
  rw [grd_true _ hL.2.1.1, gi_rw, gi_rw, rw_wr, r9, r10, ← J_sub]
  by_cases q : 6 < e - s
  · rw [if_pos ((J_lt (by decide) (by omega)).mpr (by omega)), if_pos q]
    simp only [lt_def, si_wr, rw_wr, wr_wr]
  · rw [if_neg (fun w => q (by have := (J_lt (by decide) (by omega)).mp w; omega)), if_neg q]
    simp only [lt_def, si_wr, gi_x, rw_wr, wr_wr]
    rw [up_ne (by decide), r9]
    have := tx_digits (N := N) (s := s) hs.2 hL hC (e - s) 0 N (up R 11 (J 0)) (by omega) (by omega) (by rw [up_ne (by decide)]; exact r1) (by rw [up_ne (by decide)]; exact r10) up_same
    rw [up_up, Nat.zero_add, Nat.add_zero] at this
    exact this
def adR (B : Nat → Int) (n i : Nat) (R : Nat → Int32) : Nat → Int32 := fun k => if k = 8 then J (if tkK B n i = 2 ∧ 6 < enZ B n i - stZ B n i then 5 else tkK B n i) else if k = 9 then J ((stZ B n i : Nat) : Int) else if k = 10 then J ((enZ B n i : Nat) : Int) else if k = 11 then (if tkK B n i = 2 ∧ ¬ 6 < enZ B n i - stZ B n i then J (nmZ B (stZ B n i) (enZ B n i - stZ B n i)) else R 11) else R k
theorem tx_adv {i : Nat} {R : Nat → Int32} (hN : 1000 ≤ N) (hL : gcL S a) (hC : CB v a n B) (r1 : R 1 = J (n : Int)) (r10 : R 10 = J (i : Int)) (hi : i ≤ n) : F_tx_advance N (a + 1) S (wr v (a + 1) R) = some (wr v (a + 1) (adR B n i R)) := by
  have n5 := hC.1
  obtain ⟨b1, b2, b3, b4, b5⟩ := tk_B (B := B) (n := n) (i := i) hi hC.2.1
  have bb := btZ_B (i := stZ B n i) hC.2.1
  have kb : 0 ≤ tkK B n i ∧ tkK B n i ≤ 5 := kdZ_B
  have j0 : (J (tkK B n i) = J 0) ↔ tkK B n i = 0 := J_eq (by omega) (by decide)
  have j1 : (J (tkK B n i) = J 1) ↔ tkK B n i = 1 := J_eq (by omega) (by decide)
  have j2 : (J (tkK B n i) = J 2) ↔ tkK B n i = 2 := J_eq (by omega) (by decide)
  unfold F_tx_advance
  rw [grd_true _ hL.2.1.1]
  simp only [lt_def, si_wr, gi_x, rw_wr, wr_wr]
  rw [up_ne (show 10 ≠ 9 by decide), r10, tx_skip hL hC (n - i) i N (up R 9 (J (i : Int))) (by omega) (by omega) (by rw [up_ne (by decide)]; exact r1) up_same, up_up]
  -- behind the spaces
  obtain ⟨R1, e1⟩ : ∃ R1, R1 = up R 9 (J ((fz (spP B) (n - i) i : Nat) : Int)) := ⟨_, rfl⟩
  have e9 : R1 9 = J ((stZ B n i : Nat) : Int) := by rw [e1, up_same]; rfl
  have o1 : ∀ k, k ≠ 9 → R1 k = R k := fun k hk => by rw [e1, up_ne hk]
  rw [← e1]
  unfold K_tx_advance_45
  rw [grd_true _ hL.2.1.1, gi_rw, rw_wr, e9, tx_byte hL hC (by rw [o1 1 (by decide)]; exact r1) (by omega)]
  simp only [Option.bind_some]
  rw [tx_kind bb]
  simp only [Option.bind_some, lt_def, si_wr, gi_x, rw_wr, wr_wr, up_same]
  show (if J (tkK B n i) = J 0 then _ else _) = _
  rw [up_ne (show 9 ≠ 8 by decide), e9]
  have kk : kdZ (btZ B n (stZ B n i)) = tkK B n i := rfl
  rw [kk]
  -- its kind and first place stand
  have main : ∀ s1 : Nat, (s1 = if tkK B n i = 0 then stZ B n i else stZ B n i + 1) → K_tx_advance_81 N S (wr v (a + 1) (up R1 8 (J (tkK B n i)))) (a + 1) (a + 1) (J (s1 : Int)) = some (wr v (a + 1) (adR B n i R)) := by
    intro s1 hs1
    obtain ⟨R2, e2⟩ : ∃ R2, R2 = up (up R1 8 (J (tkK B n i))) 10 (J (s1 : Int)) := ⟨_, rfl⟩
    have q8 : R2 8 = J (tkK B n i) := by rw [e2, up_ne (by decide), up_same]
    have q10 : R2 10 = J (s1 : Int) := by rw [e2, up_same]
    have q9 : R2 9 = J ((stZ B n i : Nat) : Int) := by rw [e2, up_ne (by decide), up_ne (by decide)]; exact e9
    have qo : ∀ k, k ≠ 8 → k ≠ 9 → k ≠ 10 → R2 k = R k := fun k h8 h9 h10 => by rw [e2, up_ne h10, up_ne h8, o1 k h9]
    have q1 : R2 1 = J (n : Int) := by rw [qo 1 (by decide) (by decide) (by decide)]; exact r1
    unfold K_tx_advance_81
    rw [grd_true _ hL.2.1.1]
    simp only [lt_def, si_wr, gi_x, rw_wr, wr_wr]
    rw [grd_true _ hL.2.1.1, ← e2, q8, q10]
    by_cases x12 : tkK B n i = 1 ∨ tkK B n i = 2
    · have h0 : ¬ tkK B n i = 0 := by omega
      have hs := b4 h0
      rw [if_neg h0] at hs1
      have en : enZ B n i = fz (knP B (tkK B n i)) (n - (stZ B n i + 1)) (stZ B n i + 1) := (if_neg h0).trans (if_pos x12)
      have sc := tx_scan (N := N) x12 hL hC (n - s1) s1 N R2 (by omega) (by omega) q1 q8 q10
      rw [hs1, ← en] at sc
      rw [← hs1] at sc
      have goal12 : finT N a S (wr v (a + 1) (up R2 10 (J ((enZ B n i : Nat) : Int)))) = some (wr v (a + 1) (adR B n i R)) := by
        unfold finT
        rw [gi_rw, rw_wr, up_ne (by decide), q8]
        by_cases x2 : tkK B n i = 2
        · rw [if_pos (j2.mpr x2), tx_rd (s := stZ B n i) (e := enZ B n i) hN hL hC (by rw [up_ne (by decide)]; exact q1) (by rw [up_ne (by decide)]; exact q9) up_same ⟨b2, b3⟩]
          simp only [Option.bind_some]
          congr 2
          funext k
          unfold adR
          by_cases l6 : 6 < enZ B n i - stZ B n i
          · rw [if_pos l6]
            by_cases k8 : k = 8
            · subst k8
              rw [up_same, if_pos rfl, if_pos ⟨x2, l6⟩]
            · rw [up_ne k8, if_neg k8]
              by_cases k10 : k = 10
              · subst k10
                rw [up_same, if_neg (by decide), if_pos rfl]
              · rw [up_ne k10]
                by_cases k9 : k = 9
                · subst k9
                  rw [if_pos rfl]; exact q9
                · rw [if_neg k9, if_neg k10, qo k k8 k9 k10]
                  by_cases k11 : k = 11
                  · subst k11
                    rw [if_pos rfl, if_neg (fun w => w.2 l6)]
                  · rw [if_neg k11]
          · rw [if_neg l6]
            by_cases k11 : k = 11
            · subst k11
              rw [up_same, if_neg (by decide), if_neg (by decide), if_neg (by decide), if_pos rfl, if_pos ⟨x2, l6⟩]
            · rw [up_ne k11]
              by_cases k10 : k = 10
              · subst k10
                rw [up_same, if_neg (by decide), if_neg (by decide), if_pos rfl]
              · rw [up_ne k10]
                by_cases k8 : k = 8
                · subst k8
                  rw [if_pos rfl, if_neg (fun w => l6 w.2)]; exact q8
                · by_cases k9 : k = 9
                  · subst k9
                    rw [if_neg (by decide), if_pos rfl]; exact q9
                  · rw [if_neg k8, if_neg k9, if_neg k10, if_neg k11, qo k k8 k9 k10]
        · rw [if_neg (fun w => x2 (j2.mp w))]
          congr 2
          funext k
          unfold adR
          by_cases k10 : k = 10
          · subst k10
            rw [up_same, if_neg (by decide), if_neg (by decide), if_pos rfl]
          · rw [up_ne k10]
            by_cases k8 : k = 8
            · subst k8
              rw [if_pos rfl, if_neg (fun w => x2 w.1)]; exact q8
            · by_cases k9 : k = 9
              · subst k9
                rw [if_neg (by decide), if_pos rfl]; exact q9
              · rw [if_neg k8, if_neg k9, if_neg k10, qo k k8 k9 k10]
                by_cases k11 : k = 11
                · subst k11
                  rw [if_pos rfl, if_neg (fun w => x2 w.1)]
                · rw [if_neg k11]
      by_cases x1 : tkK B n i = 1
      · rw [if_pos (j1.mpr x1), sc]
        exact goal12
      · rw [if_neg (fun w => x1 (j1.mp w)), if_pos (j2.mpr (by omega)), sc]
        exact goal12
    · have x1 : ¬ tkK B n i = 1 := fun w => x12 (Or.inl w)
      have x2 : ¬ tkK B n i = 2 := fun w => x12 (Or.inr w)
      have en : enZ B n i = s1 := by
        rw [hs1]
        unfold enZ
        by_cases h0 : tkK B n i = 0
        · rw [if_pos h0, if_pos h0]
        · rw [if_neg h0, if_neg x12, if_neg h0]
      have stop : K_tx_advance_111 N N S (wr v (a + 1) R2) (a + 1) (J 0) (J (s1 : Int)) = some (wr v (a + 1) R2) := by
        obtain ⟨F, eF⟩ : ∃ F, N = F + 1 := ⟨N - 1, by omega⟩
        have : ∀ F, K_tx_advance_111 N (F + 1) S (wr v (a + 1) R2) (a + 1) (J 0) (J (s1 : Int)) = some (wr v (a + 1) R2) := fun F => by
          show Y_tx_advance_111 N (K_tx_advance_111 N F S) S (wr v (a + 1) R2) (a + 1) (J 0) (J (s1 : Int)) = _
          unfold Y_tx_advance_111
          rw [grd_true _ hL.2.1.1, gi_rw, gi_rw, rw_wr, q8, if_neg (fun w => x2 (j2.mp w)), if_pos rfl]
          split <;> rfl
        have t := this F
        rw [← eF] at t
        exact t
      rw [if_neg (fun w => x1 (j1.mp w)), if_neg (fun w => x2 (j2.mp w)), stop]
      congr 2
      funext k
      unfold adR
      by_cases k8 : k = 8
      · subst k8
        rw [if_pos rfl, if_neg (fun w => x2 w.1)]; exact q8
      · by_cases k9 : k = 9
        · subst k9
          rw [if_neg (by decide), if_pos rfl]; exact q9
        · by_cases k10 : k = 10
          · subst k10
            rw [if_neg (by decide), if_neg (by decide), if_pos rfl, en]; exact q10
          · rw [if_neg k8, if_neg k9, if_neg k10, qo k k8 k9 k10]
            by_cases k11 : k = 11
            · subst k11
              rw [if_pos rfl, if_neg (fun w => x2 w.1)]
            · rw [if_neg k11]
  by_cases h0 : tkK B n i = 0
  · rw [if_pos (j0.mpr h0)]
    exact main _ (by rw [if_pos h0])
  · rw [if_neg (fun w => h0 (j0.mp w)), J_s]
    exact main _ (by rw [if_neg h0])
/-- the class's reader at z -/
def CR (n : Nat) (R : Nat → Int32) (z : Nat → Int) : Prop := R 1 = J (n : Int) ∧ ∀ k, 2 ≤ k → k < 13 → R k = J (z k)
theorem CR_adv {R : Nat → Int32} (hN : 1000 ≤ N) (hL : gcL S a) (hC : CB v a n B) (hR : CR n R z) (h10 : 0 ≤ z 10 ∧ z 10 ≤ n) : ∃ R', F_tx_advance N (a + 1) S (wr v (a + 1) R) = some (wr v (a + 1) R') ∧ CR n R' (adZ B n z) := by
  have r10 : R 10 = J (((z 10).toNat : Nat) : Int) := by rw [hR.2 10 (by decide) (by decide), show (((z 10).toNat : Nat) : Int) = z 10 by omega]
  refine ⟨_, tx_adv hN hL hC hR.1 r10 (by omega), ?_, fun k h2 h13 => ?_⟩
  · exact hR.1
  · unfold adR adZ
    by_cases k8 : k = 8
    · rw [if_pos k8, if_pos k8]
    · rw [if_neg k8, if_neg k8]
      by_cases k9 : k = 9
      · rw [if_pos k9, if_pos k9]
      · rw [if_neg k9, if_neg k9]
        by_cases k10 : k = 10
        · rw [if_pos k10, if_pos k10]
        · rw [if_neg k10, if_neg k10]
          by_cases k11 : k = 11
          · rw [if_pos k11, if_pos k11]
            by_cases x : tkK B n (z 10).toNat = 2 ∧ ¬ 6 < enZ B n (z 10).toNat - stZ B n (z 10).toNat
            · rw [if_pos x, if_pos x]
            · rw [if_neg x, if_neg x]
              exact hR.2 11 (by decide) (by decide)
          · rw [if_neg k11, if_neg k11]
            exact hR.2 k h2 h13
end SCAN
