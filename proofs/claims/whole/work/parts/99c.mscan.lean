/-! The text that is read: tokens, as the model finds them. -/
section MSCAN
variable {S : shp} {v w : vl} {a m N n : Nat} {B : Nat → Int} {z : Nat → Int}
def MBy (w : vl) (m n : Nat) (B : Nat → Int) : Prop := n ≤ 500 ∧ (∀ j, j < n → 0 ≤ B j ∧ B j ≤ 255) ∧ ∀ i, i < n → rw w (m + 6) i = J (B i)
theorem kdZ_1 {b : Int} : kdZ b = 1 ↔ 97 ≤ b ∧ b ≤ 122 := by
  unfold kdZ
  repeat' split
  all_goals omega
theorem kdZ_2' {b : Int} : kdZ b = 2 ↔ 48 ≤ b ∧ b ≤ 57 := by
  unfold kdZ
  repeat' split
  all_goals omega
theorem gm_byte {R : Nat → Int32} {i : Nat} (hl : mdL S m) (hC : MBy w m n B) (r17 : R 17 = J (n : Int)) (hi : i < 1000) : F_gm_byteAt m (J (i : Int)) S (wr w m R) = some (J (btZ B n i)) := by
  obtain ⟨c1, -, c3⟩ := hC
  obtain ⟨l0, -, -, -, -, -, -, ⟨l16, l6⟩, -⟩ := hl
  have ti : (J (i : Int)).toInt = (i : Int) := J_toInt (by omega) (by omega)
  unfold F_gm_byteAt btZ
  rw [grd_true _ l0, gi_rw, rw_wr, r17]
  by_cases q : i < n
  · rw [if_pos ((J_lt (by omega) (by omega)).mpr (by omega)), if_pos q, l16]
    simp only [Option.bind_some]
    rw [grd_true _ l6, grd_true _ (vin_of l6 ti (by omega)), clampT ti, gi_rw, rw_wr_ne (by omega), c3 i q]
  · rw [if_neg (fun w => by have := (J_lt (by omega) (by omega)).mp w; omega), if_neg q]
theorem gm_let (hl : mdL S m) (hC : MBy w m n B) : ∀ (k i F : Nat) (R : Nat → Int32), i + k = n → k < F → R 17 = J (n : Int) → R 22 = J (i : Int) →
    K_gm_advanceToken_90 N F S (wr w m R) m = some (wr w m (up R 22 (J ((fz (knP B 1) k i : Nat) : Int))))
  | _, _, 0, _, _, h, _, _ => absurd h (Nat.not_lt_zero _)
  | 0, i, F + 1, R, hk, _, r17, r22 => by
    have n5 := hC.1
    have eb : btZ B n i = -1 := if_neg (by omega)
    show Y_gm_advanceToken_90 N (K_gm_advanceToken_90 N F S) S (wr w m R) m = _
    unfold Y_gm_advanceToken_90
    rw [grd_true _ hl.1, gi_rw, rw_wr, r22, gm_byte hl hC r17 (by omega), eb]
    simp only [Option.bind_some]
    rw [gm_inRange (by decide) (by decide) (by decide), if_neg (by decide)]
    simp only [Option.bind_some, if_true]
    rw [fz_0, up_id r22]
  | k + 1, i, F + 1, R, hk, hF, r17, r22 => by
    have n5 := hC.1
    have bb := hC.2.1 i (by omega)
    have eb : btZ B n i = B i := if_pos (by omega)
    show Y_gm_advanceToken_90 N (K_gm_advanceToken_90 N F S) S (wr w m R) m = _
    unfold Y_gm_advanceToken_90
    rw [grd_true _ hl.1, gi_rw, rw_wr, r22, gm_byte hl hC r17 (by omega), eb]
    simp only [Option.bind_some]
    rw [gm_inRange (by omega) (by decide) (by decide), fz_s]
    simp only [Option.bind_some]
    by_cases q : 97 ≤ B i ∧ B i ≤ 122
    · rw [if_pos q, if_neg (show ¬ J 1 = J 0 by decide), if_pos (knP_t.mpr (kdZ_1.mpr q))]
      simp only [lt_def, si_wr, gi_x, rw_wr, wr_wr, r22]
      rw [J_s, gm_let hl hC k (i + 1) F (up R 22 (J ((i + 1 : Nat) : Int))) (by omega) (by omega) (by rw [up_ne (by decide)]; exact r17) up_same, up_up]
    · rw [if_neg q, if_pos rfl, if_neg (fun w => q (kdZ_1.mp (knP_t.mp w))), up_id r22]
def mn6 (j : Nat) : Nat := if j < 6 then j else 6
theorem gm_dig {s : Nat} (hl : mdL S m) (hC : MBy w m n B) : ∀ (k j F : Nat) (R : Nat → Int32), s + j + k = n → k < F → R 17 = J (n : Int) → R 22 = J ((s + j : Nat) : Int) → R 23 = J (s : Int) → R 24 = J (nmZ B s (mn6 j)) →
    K_gm_advanceToken_137 N F S (wr w m R) m = some (wr w m (up (up R 24 (J (nmZ B s (mn6 (fz (knP B 2) k (s + j) - s))))) 22 (J ((fz (knP B 2) k (s + j) : Nat) : Int))))
  | _, _, 0, _, _, h, _, _, _, _ => absurd h (Nat.not_lt_zero _)
  | 0, j, F + 1, R, hk, _, r17, r22, r23, r24 => by
    have n5 := hC.1
    have eb : btZ B n (s + j) = -1 := if_neg (by omega)
    show Y_gm_advanceToken_137 N (K_gm_advanceToken_137 N F S) S (wr w m R) m = _
    unfold Y_gm_advanceToken_137
    rw [grd_true _ hl.1, gi_rw, rw_wr, r22, gm_byte hl hC r17 (by omega), eb]
    simp only [Option.bind_some]
    rw [gm_inRange (by decide) (by decide) (by decide), if_neg (by decide)]
    simp only [Option.bind_some, if_true]
    rw [fz_0, show s + j - s = j by omega, up_id r24, up_id r22]
  | k + 1, j, F + 1, R, hk, hF, r17, r22, r23, r24 => by
    have n5 := hC.1
    have bb := hC.2.1 (s + j) (by omega)
    have eb : btZ B n (s + j) = B (s + j) := if_pos (by omega)
    show Y_gm_advanceToken_137 N (K_gm_advanceToken_137 N F S) S (wr w m R) m = _
    unfold Y_gm_advanceToken_137
    rw [grd_true _ hl.1, gi_rw, rw_wr, r22, gm_byte hl hC r17 (by omega), eb]
    simp only [Option.bind_some]
    rw [gm_inRange (by omega) (by decide) (by decide), fz_s]
    simp only [Option.bind_some]
    by_cases q : 48 ≤ B (s + j) ∧ B (s + j) ≤ 57
    · have e23 : gi (wr w m R) m 23 = J (s : Int) := by rw [gi_rw, rw_wr]; exact r23
      rw [if_pos q, if_neg (show ¬ J 1 = J 0 by decide), if_pos (knP_t.mpr (kdZ_2'.mpr q)), e23, ← J_sub]
      by_cases j6 : j < 6
      · have e24 : gi (wr w m R) m 24 = J (nmZ B s (mn6 j)) := by rw [gi_rw, rw_wr]; exact r24
        have m1 : mn6 j = j := if_pos j6
        have m2 : mn6 (j + 1) = j + 1 := by unfold mn6; split <;> omega
        rw [if_pos ((J_lt (by omega) (by decide)).mpr (by omega))]
        simp only [Option.bind_some, lt_def, si_wr, gi_x, rw_wr, wr_wr]
        rw [r24, m1, ← J_mul, ← J_add, ← J_sub, up_ne (show 22 ≠ 24 by decide), r22, J_s]
        have := gm_dig (s := s) hl hC k (j + 1) F (up (up R 24 (J (10 * nmZ B s j + B (s + j) - 48))) 22 (J ((s + j + 1 : Nat) : Int))) (by omega) (by omega) (by rw [up_ne (by decide), up_ne (by decide)]; exact r17) up_same (by rw [up_ne (by decide), up_ne (by decide)]; exact r23) (by rw [up_ne (by decide), up_same, m2, nmZ_s, Int.mul_comm])
        rw [this, up_comm (show 22 ≠ 24 by decide), up_up, up_up]
        rfl
      · have m2 : mn6 (j + 1) = mn6 j := by unfold mn6; rw [if_neg (by omega), if_neg (by omega)]
        rw [if_neg (fun w => j6 (by have := (J_lt (by omega) (by decide)).mp w; omega))]
        simp only [Option.bind_some, lt_def, si_wr, gi_x, rw_wr, wr_wr]
        rw [J_s]
        have := gm_dig (s := s) hl hC k (j + 1) F (up R 22 (J ((s + j + 1 : Nat) : Int))) (by omega) (by omega) (by rw [up_ne (by decide)]; exact r17) up_same (by rw [up_ne (by decide)]; exact r23) (by rw [up_ne (by decide), m2]; exact r24)
        rw [this, up_comm (show 22 ≠ 24 by decide), up_up]
        rfl
    · rw [if_neg q, if_pos rfl, if_neg (fun w => q (kdZ_2'.mp (knP_t.mp w))), show s + j - s = j by omega, up_id r24, up_id r22]
def mdR (B : Nat → Int) (n i : Nat) (R : Nat → Int32) : Nat → Int32 := fun k => if k = 22 then J ((enZ B n i : Nat) : Int) else if k = 23 then J ((stZ B n i : Nat) : Int) else if k = 24 then J (if tkK B n i = 2 then nmZ B (stZ B n i) (mn6 (enZ B n i - stZ B n i)) else 0) else if k = 25 then J (tkK B n i) else R k
/-- rows that say the same -/
theorem mdR_of {i : Nat} {R R' : Nat → Int32} (h22 : R' 22 = J ((enZ B n i : Nat) : Int)) (h23 : R' 23 = J ((stZ B n i : Nat) : Int)) (h24 : R' 24 = J (if tkK B n i = 2 then nmZ B (stZ B n i) (mn6 (enZ B n i - stZ B n i)) else 0)) (h25 : R' 25 = J (tkK B n i)) (ho : ∀ k, k ≠ 22 → k ≠ 23 → k ≠ 24 → k ≠ 25 → R' k = R k) : R' = mdR B n i R := by
  funext k
  unfold mdR
  by_cases k22 : k = 22
  · subst k22; rw [if_pos rfl]; exact h22
  · rw [if_neg k22]
    by_cases k23 : k = 23
    · subst k23; rw [if_pos rfl]; exact h23
    · rw [if_neg k23]
      by_cases k24 : k = 24
      · subst k24; rw [if_pos rfl]; exact h24
      · rw [if_neg k24]
        by_cases k25 : k = 25
        · subst k25; rw [if_pos rfl]; exact h25
        · rw [if_neg k25]
          exact ho k k22 k23 k24 k25
theorem gm_tok {i : Nat} {R : Nat → Int32} {I : vl → Nat → Option vl} (hN : 1000 ≤ N) (hl : mdL S m) (hC : MBy w m n B) (hi : i ≤ n) (hst : stZ B n i = i) (hsp : ¬ (btZ B n i = 32 ∨ btZ B n i = 10)) (r17 : R 17 = J (n : Int)) (r22 : R 22 = J (i : Int)) :
    Y_gm_advanceToken_0 N I S (wr w m R) m = some (wr w m (mdR B n i R)) := by
  have n5 := hC.1
  have bb := btZ_B (i := i) hC.2.1
  have kk : tkK B n i = kdZ (btZ B n i) := by unfold tkK; rw [hst]
  have n32 : ¬ J (btZ B n i) = J 32 := fun w => hsp (Or.inl ((J_eq (by omega) (by decide)).mp w))
  have n10 : ¬ J (btZ B n i) = J 10 := fun w => hsp (Or.inr ((J_eq (by omega) (by decide)).mp w))
  have jm : (J (btZ B n i) = J (-1)) ↔ btZ B n i = -1 := J_eq (by omega) (by decide)
  have j59 : (J (btZ B n i) = J 59) ↔ btZ B n i = 59 := J_eq (by omega) (by decide)
  have j45 : (J (btZ B n i) = J 45) ↔ btZ B n i = 45 := J_eq (by omega) (by decide)
  have n1 : ¬ J 1 = J 0 := by decide
  have r17a : up R 23 (J (i : Int)) 17 = J (n : Int) := by rw [up_ne (by decide)]; exact r17
  have r22a : up R 23 (J (i : Int)) 22 = J (i : Int) := by rw [up_ne (by decide)]; exact r22
  obtain ⟨R1, e1⟩ : ∃ R1, R1 = up (up R 23 (J (i : Int))) 24 (J 0) := ⟨_, rfl⟩
  have o23 : R1 23 = J (i : Int) := by rw [e1, up_ne (by decide), up_same]
  have o24 : R1 24 = J 0 := by rw [e1, up_same]
  have o22 : R1 22 = J (i : Int) := by rw [e1, up_ne (by decide), up_ne (by decide)]; exact r22
  have o17 : R1 17 = J (n : Int) := by rw [e1, up_ne (by decide), up_ne (by decide)]; exact r17
  have oo : ∀ k, k ≠ 22 → k ≠ 23 → k ≠ 24 → k ≠ 25 → R1 k = R k := fun k h2 h3 h4 h5 => by rw [e1, up_ne h4, up_ne h3]
  unfold Y_gm_advanceToken_0
  rw [grd_true _ hl.1, gi_rw, rw_wr, r22, gm_byte hl hC r17 (by omega)]
  simp only [Option.bind_some]
  rw [if_neg n32, if_neg n10]
  simp only [lt_def, si_wr, gi_x, rw_wr, wr_wr, r22, r22a]
  rw [gm_byte hl hC r17a (by omega)]
  simp only [Option.bind_some]
  rw [← e1]
  by_cases c0 : btZ B n i = -1
  · have k0 : tkK B n i = 0 := by rw [kk, c0]; rfl
    rw [if_pos (jm.mpr c0)]
    congr 2
    refine mdR_of ?_ ?_ ?_ ?_ (fun k h2 h3 h4 h5 => ?_)
    · rw [up_ne (by decide), o22, show enZ B n i = stZ B n i from if_pos k0, hst]
    · rw [up_ne (by decide), o23, hst]
    · rw [up_ne (by decide), o24, if_neg (by omega)]
    · rw [up_same, k0]
    · rw [up_ne h5]; exact oo k h2 h3 h4 h5
  · have inn : i < n := by
      by_cases q : i < n
      · exact q
      · exact absurd (if_neg q) c0
    have eb : btZ B n i = B i := if_pos inn
    rw [if_neg (fun w => c0 (jm.mp w)), gm_inRange (by omega) (by decide) (by decide)]
    simp only [Option.bind_some]
    by_cases c1 : 97 ≤ btZ B n i ∧ btZ B n i ≤ 122
    · have k1 : tkK B n i = 1 := by rw [kk]; exact kdZ_1.mpr c1
      have en : enZ B n i = fz (knP B 1) (n - i) i := by
        have e : enZ B n i = fz (knP B (tkK B n i)) (n - (stZ B n i + 1)) (stZ B n i + 1) := (if_neg (by omega)).trans (if_pos (Or.inl k1))
        rw [e, k1, hst, show n - i = n - (i + 1) + 1 by omega, fz_s, if_pos (knP_t.mpr (by rw [← eb]; exact kdZ_1.mpr c1))]
      rw [if_pos c1, if_neg n1, gm_let hl hC (n - i) i N (up R1 25 (J 1)) (by omega) (by omega) (by rw [up_ne (by decide)]; exact o17) (by rw [up_ne (by decide)]; exact o22)]
      congr 2
      refine mdR_of ?_ ?_ ?_ ?_ (fun k h2 h3 h4 h5 => ?_)
      · rw [up_same, en]
      · rw [up_ne (by decide), up_ne (by decide), o23, hst]
      · rw [up_ne (by decide), up_ne (by decide), o24, if_neg (by omega)]
      · rw [up_ne (by decide), up_same, k1]
      · rw [up_ne h2, up_ne h5]; exact oo k h2 h3 h4 h5
    · rw [if_neg c1, if_pos rfl, gm_inRange (by omega) (by decide) (by decide)]
      simp only [Option.bind_some]
      by_cases c2 : 48 ≤ btZ B n i ∧ btZ B n i ≤ 57
      · have k2 : tkK B n i = 2 := by rw [kk]; exact kdZ_2'.mpr c2
        have en : enZ B n i = fz (knP B 2) (n - i) i := by
          have e : enZ B n i = fz (knP B (tkK B n i)) (n - (stZ B n i + 1)) (stZ B n i + 1) := (if_neg (by omega)).trans (if_pos (Or.inr k2))
          rw [e, k2, hst, show n - i = n - (i + 1) + 1 by omega, fz_s, if_pos (knP_t.mpr (by rw [← eb]; exact kdZ_2'.mpr c2))]
        have D := gm_dig (N := N) (w := w) (s := i) hl hC (n - i) 0 N (up R1 25 (J 2)) (by omega) (by omega) (by rw [up_ne (by decide)]; exact o17) (by rw [up_ne (by decide)]; exact o22) (by rw [up_ne (by decide)]; exact o23) (by rw [up_ne (by decide)]; exact o24)
        rw [Nat.add_zero, ← en] at D
        rw [if_pos c2, if_neg n1, D]
        congr 2
        refine mdR_of ?_ ?_ ?_ ?_ (fun k h2 h3 h4 h5 => ?_)
        · rw [up_same]
        · rw [up_ne (by decide), up_ne (by decide), up_ne (by decide), o23, hst]
        · rw [up_ne (by decide), up_same, if_pos k2, hst]
        · rw [up_ne (by decide), up_ne (by decide), up_same, k2]
        · rw [up_ne h2, up_ne h4, up_ne h5]; exact oo k h2 h3 h4 h5
      · rw [if_neg c2, if_pos rfl]
        -- one sign
        have sign : ∀ κ : Int, tkK B n i = κ → κ = 3 ∨ κ = 4 ∨ κ = 5 → up (up R1 25 (J κ)) 22 (J ((i + 1 : Nat) : Int)) = mdR B n i R := by
          intro κ hκ h345
          have en : enZ B n i = i + 1 := by
            have e : enZ B n i = stZ B n i + 1 := (if_neg (by omega)).trans (if_neg (by omega))
            rw [e, hst]
          refine mdR_of ?_ ?_ ?_ ?_ (fun k h2 h3 h4 h5 => ?_)
          · rw [up_same, en]
          · rw [up_ne (by decide), up_ne (by decide), o23, hst]
          · rw [up_ne (by decide), up_ne (by decide), o24, if_neg (by omega)]
          · rw [up_ne (by decide), up_same, hκ]
          · rw [up_ne h2, up_ne h5]; exact oo k h2 h3 h4 h5
        have o22' : ∀ x : Int32, up R1 25 x 22 = J (i : Int) := fun x => by rw [up_ne (by decide)]; exact o22
        by_cases c3 : btZ B n i = 59
        · have k3 : tkK B n i = 3 := by rw [kk, c3]; rfl
          rw [if_pos (j59.mpr c3), o22', J_s, sign 3 k3 (Or.inl rfl)]
        · rw [if_neg (fun w => c3 (j59.mp w))]
          by_cases c4 : btZ B n i = 45
          · have k4 : tkK B n i = 4 := by rw [kk, c4]; rfl
            rw [if_pos (j45.mpr c4), o22', J_s, sign 4 k4 (Or.inr (Or.inl rfl))]
          · have k5 : tkK B n i = 5 := by
              rw [kk]
              unfold kdZ
              rw [if_neg c0, if_neg c1, if_neg c2, if_neg c3, if_neg c4]
            rw [if_neg (fun w => c4 (j45.mp w)), o22', J_s, sign 5 k5 (Or.inr (Or.inr rfl))]
theorem gm_adv (hN : 1000 ≤ N) (hl : mdL S m) (hC : MBy w m n B) : ∀ (k i F : Nat) (R : Nat → Int32), i + k = n → k < F → R 17 = J (n : Int) → R 22 = J (i : Int) →
    K_gm_advanceToken_0 N F S (wr w m R) m = some (wr w m (mdR B n i R))
  | _, _, 0, _, _, h, _, _ => absurd h (Nat.not_lt_zero _)
  | 0, i, F + 1, R, hk, _, r17, r22 => by
    have hst : stZ B n i = i := by
      unfold stZ
      rw [show n - i = 0 by omega, fz_0]
    have eb : btZ B n i = -1 := if_neg (by omega)
    exact gm_tok hN hl hC (by omega) hst (by rw [eb]; decide) r17 r22
  | k + 1, i, F + 1, R, hk, hF, r17, r22 => by
    have n5 := hC.1
    have eb : btZ B n i = B i := if_pos (by omega)
    have bb := hC.2.1 i (by omega)
    have en : n - i = n - (i + 1) + 1 := by omega
    by_cases q : B i = 32 ∨ B i = 10
    · have hst : stZ B n i = stZ B n (i + 1) := by
        unfold stZ
        rw [en, fz_s, if_pos (spP_t.mpr q)]
      have htk : tkK B n i = tkK B n (i + 1) := by unfold tkK; rw [hst]
      have hen : enZ B n i = enZ B n (i + 1) := by unfold enZ; rw [htk, hst]
      have IH := gm_adv hN hl hC k (i + 1) F (up R 22 (J ((i + 1 : Nat) : Int))) (by omega) (by omega) (by rw [up_ne (by decide)]; exact r17) up_same
      have e : mdR B n (i + 1) (up R 22 (J ((i + 1 : Nat) : Int))) = mdR B n i R := by
        refine mdR_of ?_ ?_ ?_ ?_ (fun k h2 h3 h4 h5 => ?_)
        · rw [hen]; rfl
        · rw [hst]; rfl
        · rw [htk, hen, hst]; rfl
        · rw [htk]; rfl
        · unfold mdR
          rw [if_neg h2, if_neg h3, if_neg h4, if_neg h5, up_ne h2]
      rw [e] at IH
      show Y_gm_advanceToken_0 N (K_gm_advanceToken_0 N F S) S (wr w m R) m = _
      unfold Y_gm_advanceToken_0
      rw [grd_true _ hl.1, gi_rw, rw_wr, r22, gm_byte hl hC r17 (by omega), eb]
      simp only [Option.bind_some]
      by_cases q1 : B i = 32
      · rw [if_pos (by rw [q1])]
        simp only [lt_def, si_wr, gi_x, rw_wr, wr_wr, r22]
        rw [J_s]
        exact IH
      · rw [if_neg (fun w => q1 ((J_eq (by omega) (by decide)).mp w)), if_pos (by rw [show B i = 10 by omega])]
        simp only [lt_def, si_wr, gi_x, rw_wr, wr_wr, r22]
        rw [J_s]
        exact IH
    · have hst : stZ B n i = i := by
        unfold stZ
        rw [en, fz_s, if_neg (fun w => q (spP_t.mp w))]
      exact gm_tok hN hl hC (by omega) hst (by rw [eb]; exact q) r17 r22
/-- the model's reader at z -/
def MR (n : Nat) (R0 R : Nat → Int32) (z : Nat → Int) : Prop := (∀ k, k < 20 ∨ 27 < k → R k = R0 k) ∧ R 17 = J (n : Int) ∧ R 20 = J (z 2) ∧ R 21 = J (z 3) ∧ R 22 = J (z 10) ∧ R 23 = J (z 9) ∧ (R 25 = J (z 8) ∨ (z 8 = 5 ∧ R 25 = J 2 ∧ 6 < z 10 - z 9)) ∧ (z 8 = 2 → R 24 = J (z 11) ∧ ¬ 6 < z 10 - z 9) ∧ R 27 = J (z 5 + 2 * z 6 + 4 * z 7)
theorem MR_adv0 {R0 R : Nat → Int32} (hN : 1000 ≤ N) (hl : mdL S m) (hC : MBy w m n B) (q0 : ∀ k, k < 20 ∨ 27 < k → R k = R0 k) (q17 : R 17 = J (n : Int)) (q20 : R 20 = J (z 2)) (q21 : R 21 = J (z 3)) (q22 : R 22 = J (z 10)) (q27 : R 27 = J (z 5 + 2 * z 6 + 4 * z 7)) (h10 : 0 ≤ z 10 ∧ z 10 ≤ n) : ∃ R', F_gm_advanceToken N m S (wr w m R) = some (wr w m R') ∧ MR n R0 R' (adZ B n z) ∧ R' 26 = R 26 := by
  have n5 := hC.1
  have r22 : R 22 = J (((z 10).toNat : Nat) : Int) := by rw [q22, show (((z 10).toNat : Nat) : Int) = z 10 by omega]
  have e := gm_adv (w := w) hN hl hC (n - (z 10).toNat) (z 10).toNat N R (by omega) (by omega) q17 r22
  obtain ⟨b1, b2, b3, b4, b5⟩ := tk_B (B := B) (n := n) (i := (z 10).toNat) (by omega) hC.2.1
  have e8 : adZ B n z 8 = if tkK B n (z 10).toNat = 2 ∧ 6 < enZ B n (z 10).toNat - stZ B n (z 10).toNat then 5 else tkK B n (z 10).toNat := rfl
  have e9 : adZ B n z 9 = ((stZ B n (z 10).toNat : Nat) : Int) := rfl
  have e10 : adZ B n z 10 = ((enZ B n (z 10).toNat : Nat) : Int) := rfl
  refine ⟨_, e, ⟨fun k hk => ?_, q17, ?_, ?_, rfl, rfl, ?_, fun h8 => ?_, ?_⟩, rfl⟩
  · unfold mdR
    rw [if_neg (by omega), if_neg (by omega), if_neg (by omega), if_neg (by omega)]
    exact q0 k hk
  · rw [adZ_o (by decide)]; exact q20
  · rw [adZ_o (by decide)]; exact q21
  · rw [e8, e9, e10]
    by_cases x : tkK B n (z 10).toNat = 2 ∧ 6 < enZ B n (z 10).toNat - stZ B n (z 10).toNat
    · right
      rw [if_pos x]
      exact ⟨rfl, by show J (tkK B n (z 10).toNat) = J 2; rw [x.1], by omega⟩
    · left
      rw [if_neg x]
      rfl
  · rw [e8] at h8
    have x : tkK B n (z 10).toNat = 2 ∧ ¬ 6 < enZ B n (z 10).toNat - stZ B n (z 10).toNat := by
      split at h8
      · omega
      · rename_i y
        exact ⟨h8, fun w => y ⟨h8, w⟩⟩
    have e11 : adZ B n z 11 = nmZ B (stZ B n (z 10).toNat) (enZ B n (z 10).toNat - stZ B n (z 10).toNat) := if_pos x
    rw [e9, e10, e11]
    refine ⟨?_, by omega⟩
    show J (if tkK B n (z 10).toNat = 2 then _ else _) = _
    rw [if_pos x.1]
    have m6 : mn6 (enZ B n (z 10).toNat - stZ B n (z 10).toNat) = enZ B n (z 10).toNat - stZ B n (z 10).toNat := by
      unfold mn6
      split <;> omega
    rw [m6]
  · rw [adZ_o (by decide), adZ_o (by decide), adZ_o (by decide)]; exact q27
theorem MR_adv {R0 R : Nat → Int32} (hN : 1000 ≤ N) (hl : mdL S m) (hC : MBy w m n B) (hR : MR n R0 R z) (h10 : 0 ≤ z 10 ∧ z 10 ≤ n) : ∃ R', F_gm_advanceToken N m S (wr w m R) = some (wr w m R') ∧ MR n R0 R' (adZ B n z) ∧ R' 26 = R 26 := by
  obtain ⟨q0, q17, q20, q21, q22, q23, q25, q24, q27⟩ := hR
  exact MR_adv0 hN hl hC q0 q17 q20 q21 q22 q27 h10
end MSCAN
