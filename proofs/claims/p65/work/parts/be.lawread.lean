/-! The law's text is read: numbers, signs, words; the clock. -/
section LAWREAD
variable {S : shp} {v : vl} {a N n : Nat} {L sp wd rest : List Int} {z : Nat → Int} {f5 f6 f7 x y lo hi : Int}
/-- the class's words -/
def cwL (j : Nat) : List Int := if j = 10 then [99, 108, 111, 99, 107] else if j = 11 then [100, 114, 105, 102, 116] else if j = 12 then [97, 103, 101] else if j = 13 then [112, 114, 101, 115, 99, 97, 108, 101] else if j = 14 then [103, 97, 116, 101] else if j = 15 then [112, 101, 114, 105, 111, 100, 115] else [115, 105, 103, 110, 97, 108]
def lnW (j : Nat) : Nat := (cwL j).length
def WW (j : Nat) : Nat → Int := asL (cwL j)
def CT (S : shp) (v : vl) (a : Nat) (L : List Int) (z : Nat → Int) : Prop := CS S v a L.length (asL L) lnW WW z
theorem CT_gi {k : Nat} (h : CT S v a L z) (hk : 2 ≤ k ∧ k < 13) : gi v (a + 1) k = J (z k) := by
  rw [gi_rw]
  exact h.2.2.2 k hk.1 hk.2
theorem tk_num (hN : 1000 ≤ N) (hL : gcL S a) (hC : CT S v a L z) (hz : zI L.length z) (h8 : z 8 = 2) (h11 : z 11 = y) (hA : AT L z rest) (hy : lo ≤ y ∧ y ≤ hi) (hr : tnR lo hi) : ∃ R' z', F_tx_takeNumber N (a + 1) (J lo) (J hi) S v = some (J 1, wr v (a + 1) R') ∧ CT S (wr v (a + 1) R') a L z' ∧ NX L z' rest (z 5) (z 6) (z 7) ∧ z' 12 = y := by
  obtain ⟨R', e1, e2⟩ := (tx_take (N := N) hN hL hC hz hr).1 ⟨h8, by omega, by omega⟩
  obtain ⟨pre, p1, p2⟩ := hA
  exact ⟨R', _, e1, e2, ⟨p12 (z 11) z, fun _ _ => rfl, hz.1, ⟨pre, p1, p2⟩, rfl, rfl, rfl⟩, h11⟩
theorem tk_adv (hN : 1000 ≤ N) (hL : gcL S a) (hC : CT S v a L z) (hz : zI L.length z) (hA : AT L z rest) : ∃ R' z', F_tx_advance N (a + 1) S v = some (wr v (a + 1) R') ∧ CT S (wr v (a + 1) R') a L z' ∧ NX L z' rest (z 5) (z 6) (z 7) ∧ z' 12 = z 12 := by
  obtain ⟨R', e1, e2⟩ := tx_advS (N := N) hN hL hC (zI_10 hz)
  exact ⟨R', _, e1, e2, ⟨z, fun _ _ => rfl, hz.1, hA, rfl, rfl, rfl⟩, rfl⟩
theorem tk_semi (hN : 1000 ≤ N) (hL : gcL S a) (hC : CT S v a L z) (hz : zI L.length z) (h8 : z 8 = 3) (hA : AT L z rest) : ∃ R' z', F_tx_takeSemicolon N (a + 1) S v = some (J 1, wr v (a + 1) R') ∧ CT S (wr v (a + 1) R') a L z' ∧ NX L z' rest (z 5) (z 6) (z 7) := by
  obtain ⟨R', e1, e2⟩ := (tx_semi (N := N) hN hL hC hz).1 h8
  exact ⟨R', _, e1, e2, z, fun _ _ => rfl, hz.1, hA, rfl, rfl, rfl⟩
theorem tk_once {i : Nat} (hN : 1000 ≤ N) (hL : gcL S a) (hC : CT S v a L z) (hz : zI L.length z) (hi : i = 5 ∨ i = 6 ∨ i = 7) (hA : AT L z rest) : ∃ R' z', F_tx_advance N (a + 1) S (si v (a + 1) i (J 1)) = some (wr v (a + 1) R') ∧ CT S (wr v (a + 1) R') a L z' ∧ NX L z' rest (q1Z i z 5) (q1Z i z 6) (q1Z i z 7) := by
  obtain ⟨R', e1, e2⟩ := tx_once (N := N) hN hL hC hz hi
  obtain ⟨pre, p1, p2⟩ := hA
  exact ⟨R', _, e1, e2, q1Z i z, fun _ _ => rfl, by unfold q1Z; rw [if_neg (by omega)]; exact hz.1, ⟨pre, p1, by unfold q1Z; rw [if_neg (by omega)]; exact p2⟩, rfl, rfl, rfl⟩
theorem wdX_1 {B X : Nat → Int} {s : Nat} : ∀ (k j : Nat), (∀ i, j ≤ i → i < j + k → B (s + i) = X i) → wdX B X s k j = 1
  | 0, _, _ => rfl
  | k + 1, j, h => by
    rw [wdX_s, if_pos (h j (Nat.le_refl _) (by omega))]
    exact wdX_1 k (j + 1) (fun i h1 h2 => h i (by omega) (by omega))
theorem is_word {j : Nat} (hN : 1000 ≤ N) (hL : gcL S a) (hC : CT S v a L z) (hz : zI L.length z) (hj : 10 ≤ j ∧ j ≤ 16) (hw : tokW L z (cwL j)) : F_tx_isWord N (a + 1) (kad S j) S v = some (J 1) := by
  have := tx_word (N := N) (j := j) hN hL hC hz hj
  rw [this]
  obtain ⟨h8, hl, hc⟩ := hw
  unfold wdZ
  rw [if_pos h8, if_pos (show z 10 - z 9 = (lnW j : Int) from hl), wdX_1 (X := WW j) (lnW j) 0 (fun i _ hi => hc i (by unfold lnW at hi; omega))]
theorem no_word {j : Nat} (hN : 1000 ≤ N) (hL : gcL S a) (hC : CT S v a L z) (hz : zI L.length z) (hj : 10 ≤ j ∧ j ≤ 16) (hw : tokW L z wd) (hl : wd.length ≠ lnW j) : F_tx_isWord N (a + 1) (kad S j) S v = some (J 0) := by
  have := tx_word (N := N) (j := j) hN hL hC hz hj
  rw [this]
  obtain ⟨h8, h9, hc⟩ := hw
  unfold wdZ
  rw [if_pos h8, if_neg (by omega)]
theorem cw_kd {j : Nat} : ∀ c, c ∈ cwL j → kdZ c = 1 := by
  unfold cwL
  repeat' split
  all_goals decide
theorem sp_32 : ∀ c : Int, c ∈ ([32] : List Int) → c = 32 := fun c h => by simpa using h
theorem sp_0 : ∀ c : Int, c ∈ ([] : List Int) → c = 32 := fun c h => absurd h (List.not_mem_nil)
theorem numL_p (h : 0 ≤ x) : numL x = digL x.toNat := by
  unfold numL
  rw [if_neg (by omega), List.nil_append, show x.natAbs = x.toNat by omega]
/-- a number with its sign -/
theorem tk_signed {m : Int} (hN : 1000 ≤ N) (hL : gcL S a) (hC : CT S v a L z) (hz : zI L.length z) (hA : AT L z ([32] ++ (numL x ++ rest))) (hm : 0 ≤ m ∧ m ≤ 9999) (hx : -m ≤ x ∧ x ≤ m) (hr : rest = [] ∨ kdZ (asL rest 0) ≠ 2) : ∃ R' z', F_tx_takeSigned N (a + 1) (J m) S v = some (J 1, wr v (a + 1) R') ∧ CT S (wr v (a + 1) R') a L z' ∧ NX L z' rest (z 5) (z 6) (z 7) ∧ z' 12 = x := by
  have n1 : ¬ J 1 = J 0 := by decide
  have hf : flB (z 5) (z 6) (z 7) := hz.2.2.2.2.1
  obtain ⟨R1, z1, a1, C1, X1, -⟩ := tk_adv (N := N) hN hL hC hz hA
  by_cases ng : x < 0
  · have e : numL x ++ rest = [45] ++ (digL x.natAbs ++ rest) := by
      unfold numL
      rw [if_pos ng, List.append_assoc]
    rw [e] at X1
    obtain ⟨I1, k1, A1, f5, f6, f7⟩ := nx_c (κ := 4) X1 hf sp_32 (by decide) (Or.inr rfl)
    obtain ⟨R2, z2, b1, C2, X2, -⟩ := tk_adv (N := N) hN hL C1 I1 A1
    rw [f5, f6, f7] at X2
    obtain ⟨I2, ⟨k2, m2⟩, A2, g5, g6, g7⟩ := nx_n (sp := []) (y := x.natAbs) X2 hf sp_0 (by omega) hr
    obtain ⟨R3, z3, c1, C3, X3, m3⟩ := tk_num (N := N) (lo := 0) (hi := m) hN hL C2 I2 k2 m2 A2 (by omega) ⟨by decide, by omega⟩
    rw [g5, g6, g7] at X3
    rw [wr_wr] at b1 C2
    rw [wr_wr, wr_wr] at c1 C3
    have j8 : gi (wr v (a + 1) R1) (a + 1) 8 = J 4 := by rw [CT_gi C1 (by decide), k1]
    have j12 : gi (wr v (a + 1) R3) (a + 1) 12 = J ((x.natAbs : Nat) : Int) := by rw [CT_gi C3 (by decide), m3]
    refine ⟨up R3 12 (J x), p12 x z3, ?_, ?_, ?_, rfl⟩
    · unfold F_tx_takeSigned
      rw [grd_true _ hL.2.1.1, a1, Option.bind_some, j8, if_pos rfl, b1, Option.bind_some]
      unfold K_tx_takeSigned_26
      rw [grd_true _ hL.2.1.1, c1, Option.bind_some]
      simp only []
      rw [if_neg n1, if_neg n1, lt_def, j12, ← J_neg, si_wr, rw_wr, wr_wr, show -((x.natAbs : Nat) : Int) = x by omega]
    · have hq : CS S (wr (wr v (a + 1) R3) (a + 1) (up R3 12 (J x))) a L.length (asL L) lnW WW (p12 x z3) := by
        have hR := C3.2.2
        rw [rw_wr] at hR
        refine CS_wr C3 ⟨by rw [up_ne (by decide)]; exact hR.1, fun k h2 h13 => ?_⟩
        unfold p12
        by_cases k12 : k = 12
        · subst k12; rw [up_same, if_pos rfl]
        · rw [if_neg k12, up_ne k12]; exact hR.2 k h2 h13
      rw [wr_wr] at hq
      exact hq
    · obtain ⟨y1, y2, y3⟩ := X3
      exact ⟨y1, fun k hk => by unfold p12; rw [if_neg hk]; exact y2 k hk, y3⟩
  · have e : numL x ++ rest = digL x.toNat ++ rest := by rw [numL_p (by omega)]
    rw [e] at X1
    obtain ⟨I1, ⟨k1, m1⟩, A1, f5, f6, f7⟩ := nx_n (y := x.toNat) X1 hf sp_32 (by omega) hr
    obtain ⟨R3, z3, c1, C3, X3, m3⟩ := tk_num (N := N) (lo := 0) (hi := m) hN hL C1 I1 k1 m1 A1 (by omega) ⟨by decide, by omega⟩
    rw [f5, f6, f7] at X3
    rw [wr_wr] at c1 C3
    have j8 : gi (wr v (a + 1) R1) (a + 1) 8 = J 2 := by rw [CT_gi C1 (by decide), k1]
    have j12 : gi (wr v (a + 1) R3) (a + 1) 12 = J x := by rw [CT_gi C3 (by decide), m3, show ((x.toNat : Nat) : Int) = x by omega]
    refine ⟨R3, z3, ?_, C3, X3, by rw [m3]; omega⟩
    unfold F_tx_takeSigned
    rw [grd_true _ hL.2.1.1, a1, Option.bind_some, j8, if_neg (by decide)]
    unfold K_tx_takeSigned_26
    rw [grd_true _ hL.2.1.1, c1, Option.bind_some]
    simp only []
    rw [if_neg n1, if_true, lt_def, j12, si_wr, rw_wr, wr_wr]
    rw [up_id (by rw [← j12, gi_rw, rw_wr])]
end LAWREAD
