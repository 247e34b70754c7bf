/-! The model's measurements that count. -/
section MMAKES
variable {S : shp} {v : vl} {a b m N q : Nat} {h c g t p X : Nat → Int} {M : Nat → Nat → Int} {now : sta} {sv : Option sta} {ps : List sta} {re ca ch : Int}
def putM (R : Nat → Int32) (b : Nat) (z : Nat → Int) (i : Nat) : Nat → Int32 := fun k => if b ≤ k ∧ k < b + i then J (mN z ((k - b : Nat) : Int)) else R k
theorem putM_0 {R : Nat → Int32} {z : Nat → Int} : putM R b z 0 = R := by
  funext k
  unfold putM
  rw [if_neg (by omega)]
theorem putM_s {R : Nat → Int32} {z : Nat → Int} {i : Nat} : up (putM R b z i) (b + i) (J (mN z (i : Int))) = putM R b z (i + 1) := by
  funext k
  unfold up putM
  by_cases y : k = b + i
  · rw [if_pos y, if_pos (by omega), show k - b = i by omega]
  · rw [if_neg y]
    by_cases x : b ≤ k ∧ k < b + i
    · rw [if_pos x, if_pos (by omega)]
    · rw [if_neg x, if_neg (by omega)]
theorem gm_keepsLoop {n : Nat} {z : Nat → Int} {R : Nat → Int32} {bb : Int} (hl : mdL S m) (h22 : R 22 = J (n : Int)) (hn : n ≤ 19) (hT : ∀ R' : Nat → Int32, (∀ k, k < 21 → R' k = R k) → ∀ w : Int, 0 ≤ w ∧ w ≤ 7 → F_gm_told N m (J bb) (J w) S (wr v (m + 1) R') = some (J (mN z w))) : ∀ (F i : Nat), i ≤ 8 → 8 - i < F →
    K_gm_keeps_49 N F S (wr v (m + 1) (putM R (39 + 8 * n) z i)) m (J bb) (J (i : Int)) = some (J (z 4), wr v (m + 1) (up (up (putM R (39 + 8 * n) z 8) 22 (J ((n + 1 : Nat) : Int))) 21 (R 21 + J 1)))
  | 0, i, _, h => absurd h (Nat.not_lt_zero _)
  | F + 1, i, hi, hF => by
    have lo : ∀ (i k : Nat), k < 39 → putM R (39 + 8 * n) z i k = R k := fun i k hk => by unfold putM; rw [if_neg (by omega)]
    show Y_gm_keeps_49 N (K_gm_keeps_49 N F S) S (wr v (m + 1) (putM R (39 + 8 * n) z i)) m (J bb) (J (i : Int)) = _
    unfold Y_gm_keeps_49
    by_cases y : i = 8
    · subst y
      have e21 : up (putM R (39 + 8 * n) z 8) 22 (J ((n + 1 : Nat) : Int)) 21 = R 21 := by rw [up_ne (by decide), lo 8 21 (by decide)]
      have e22 : up (up (putM R (39 + 8 * n) z 8) 22 (J ((n + 1 : Nat) : Int))) 21 (R 21 + J 1) 22 = J ((n + 1 : Nat) : Int) := by rw [up_ne (by decide), up_same]
      rw [if_neg (by decide), grd_true _ hl.1, hl.2.1]
      simp only [Option.bind_some]
      rw [grd_true _ hl.2.2.1]
      simp only [lt_def, si_wr, gi_x, rw_wr, wr_wr, lo 8 22 (by decide), h22]
      rw [J_s, e21]
      simp only [e22]
      rw [show ((n + 1 : Nat) : Int) = (n : Int) + 1 from rfl, ← J_sub, show (n : Int) + 1 - 1 = (n : Int) by omega]
      have := gm_of (S := S) (v := wr v (m + 1) (up (up (putM R (39 + 8 * n) z 8) 22 (J ((n : Int) + 1))) 21 (R 21 + J 1))) (i := (n : Int)) (w := 4) (x := z 4) hl (by
        rw [rw_wr, up_ne (by omega), up_ne (by omega)]
        unfold putM
        rw [if_pos (by omega), show (39 + 8 * (n : Int) + 4).toNat - (39 + 8 * n) = 4 by omega]
        rfl) (by omega) (by decide)
      rw [this]
      rfl
    · have hi8 : i < 8 := by omega
      have tx : (J 39 + J 8 * J (n : Int) + J (i : Int)).toInt = ((39 + 8 * n + i : Nat) : Int) := by
        rw [← J_mul, ← J_add, ← J_add, J_toInt (by omega) (by omega)]
        omega
      rw [if_pos ((J_lt (by omega) (by decide)).mpr (by omega)), grd_true _ hl.1, hl.2.1]
      simp only [Option.bind_some]
      rw [grd_true _ hl.2.2.1, gi_rw, rw_wr, lo i 22 (by decide), h22]
      unfold F_gm_at
      simp only [Option.bind_some]
      rw [hT _ (fun k hk => lo i k (by omega)) (i : Int) (by omega)]
      simp only [Option.bind_some]
      rw [grd_true _ (vin_of hl.2.2.1 tx (by omega)), clampT tx]
      simp only [lt_def, si_wr, rw_wr, wr_wr]
      rw [putM_s, J_s]
      exact gm_keepsLoop hl h22 hn hT F (i + 1) (by omega) (by omega)
theorem gm_keeps {z : Nat → Int} {bb : Int} (hN : 100000 ≤ N) (hl : mdL S m) (hR : rowM (rw v (m + 1)) h c g t p M) (h8 : g 8 ≤ 8) (h5 : 0 ≤ h 5 ∧ h 5 ≤ 20) (hT : ∀ R' : Nat → Int32, (∀ k, k < 21 → R' k = rw v (m + 1) k) → ∀ w : Int, 0 ≤ w ∧ w ≤ 7 → F_gm_told N m (J bb) (J w) S (wr v (m + 1) R') = some (J (mN z w))) :
    ∃ R, F_gm_keeps N m (J bb) S v = some (J (z 4), wr v (m + 1) R) ∧ rowM R (fun k => if k = 4 then h 4 + 1 else if k = 5 then kpN (h 5) else h k) c g t p (kpM (h 5) M z) := by
  have r22 : rw v (m + 1) 22 = J (h 5) := hR.1 22 (by decide)
  have r21 : rw v (m + 1) 21 = J (h 4) := hR.1 21 (by decide)
  -- the row behind: n kept before, R1 the row that is written on
  have fin : ∀ (R1 : Nat → Int32) (n : Nat), n ≤ 19 → (∀ k, k < 39 → k ≠ 22 → R1 k = rw v (m + 1) k) → ((n : Int) + 1 = kpN (h 5)) → (∀ j : Nat, j < n → ∀ w : Nat, w < 8 → R1 (39 + 8 * j + w) = J (mN (kpM (h 5) M z j) w)) → (kpM (h 5) M z n = z) → rowM (up (up (putM R1 (39 + 8 * n) z 8) 22 (J ((n + 1 : Nat) : Int))) 21 (R1 21 + J 1)) (fun k => if k = 4 then h 4 + 1 else if k = 5 then kpN (h 5) else h k) c g t p (kpM (h 5) M z) := by
    intro R1 n hn hk hp hj hz
    have e : ∀ k, k < 39 → k ≠ 22 → k ≠ 21 → up (up (putM R1 (39 + 8 * n) z 8) 22 (J ((n + 1 : Nat) : Int))) 21 (R1 21 + J 1) k = rw v (m + 1) k := fun k h1 h2 h3 => by
      rw [up_ne h3, up_ne h2]
      unfold putM
      rw [if_neg (by omega)]
      exact hk k h1 h2
    refine ⟨fun k k23 => ?_, fun i hi => ?_, fun i hi w hw => ?_⟩
    · by_cases k22 : k = 22
      · subst k22
        rw [up_ne (by decide), up_same]
        show J ((n : Int) + 1) = J (kpN (h 5))
        rw [hp]
      · by_cases k21 : k = 21
        · subst k21
          rw [up_same, hk 21 (by decide) (by decide), r21, ← J_add]
          rfl
        · rw [e k (by omega) k22 k21, hR.1 k k23]
          match k, k23, k21, k22 with
          | 0, _, _, _ => rfl
          | 1, _, _, _ => rfl
          | 2, _, _, _ => rfl
          | 3, _, _, _ => rfl
          | 4, _, _, _ => rfl
          | 5, _, _, _ => rfl
          | 6, _, _, _ => rfl
          | 7, _, _, _ => rfl
          | 8, _, _, _ => rfl
          | 9, _, _, _ => rfl
          | 10, _, _, _ => rfl
          | 11, _, _, _ => rfl
          | 12, _, _, _ => rfl
          | 13, _, _, _ => rfl
          | 14, _, _, _ => rfl
          | 15, _, _, _ => rfl
          | 16, _, _, _ => rfl
          | 17, _, _, _ => rfl
          | 18, _, _, _ => rfl
          | 19, _, _, _ => rfl
          | 20, _, _, _ => rfl
          | 21, _, h, _ => exact absurd rfl h
          | 22, _, _, h => exact absurd rfl h
          | k + 23, h, _, _ => exact absurd h (by omega)
    · rw [e _ (by omega) (by omega) (by omega), e _ (by omega) (by omega) (by omega)]
      exact hR.2.1 i hi
    · have hi' : (i : Int) < kpN (h 5) := hi
      rw [up_ne (by omega), up_ne (by omega)]
      by_cases y : i = n
      · subst y
        unfold putM
        rw [if_pos (by omega), show 39 + 8 * i + w - (39 + 8 * i) = w by omega, hz]
      · unfold putM
        rw [if_neg (by omega)]
        exact hj i (by omega) w hw
  unfold F_gm_keeps
  rw [grd_true _ hl.1, hl.2.1]
  simp only [Option.bind_some]
  rw [grd_true _ hl.2.2.1, gi_rw, r22]
  by_cases q : h 5 = 20
  · have cc := gm_copies (S := S) (v := v) (a := m + 1) (b := m + 1) (i := 47) (j := 39) (cnt := 152) hN hl.2.2.1 hl.2.2.1 (by decide) (by decide) (by decide) (by decide) (Or.inr (by decide))
    obtain ⟨R1, eR⟩ : ∃ R1, R1 = up (cpR (rw v (m + 1)) (rw v (m + 1)) 47 39 152) 22 (J (((19 : Nat) : Int))) := ⟨_, rfl⟩
    have k1 : ∀ k, k < 39 → k ≠ 22 → R1 k = rw v (m + 1) k := fun k hk h22 => by
      rw [eR, up_ne h22]
      unfold cpR
      rw [if_neg (by omega)]
    have e22 : cpR (rw v (m + 1)) (rw v (m + 1)) 47 39 152 22 = J 20 := by
      show rw v (m + 1) 22 = _
      rw [r22, q]
    have L := gm_keepsLoop (N := N) (n := 19) (z := z) (R := R1) (bb := bb) (v := v) hl (by rw [eR, up_same]) (by decide) (fun R' hR' w hw => hT R' (fun k hk => (hR' k hk).trans (k1 k (by omega) (by omega))) w hw) N 0 (by decide) (by omega)
    rw [putM_0] at L
    refine ⟨_, ?_, fin R1 19 (by decide) k1 (by rw [q]; rfl) (fun j hj w hw => ?_) ?_⟩
    · rw [if_pos (by rw [q])]
      unfold F_gm_at
      simp only [Option.bind_some]
      rw [show J 39 + J 8 * J 1 = J ((47 : Nat) : Int) by decide, show J 39 + J 8 * J 0 = J ((39 : Nat) : Int) by decide, show J 152 = J ((152 : Nat) : Int) from rfl, cc]
      simp only [Option.bind_some, lt_def, si_wr, gi_x, rw_wr, wr_wr, e22]
      rw [show J 20 - J 1 = J ((19 : Nat) : Int) by decide, ← eR]
      exact L
    · have k20 : kpM (h 5) M z j = M (j + 1) := by
        unfold kpM
        rw [if_neg (by omega), if_neg (by omega)]
      have := hR.2.2 (j + 1) (by omega) w hw
      rw [k20, ← this, eR, up_ne (by omega)]
      unfold cpR
      rw [if_pos (by omega)]
      congr 1
      omega
    · unfold kpM
      rw [if_neg (by omega), if_pos rfl]
  · have n5 : (((h 5).toNat : Nat) : Int) = h 5 := by omega
    have L := gm_keepsLoop (N := N) (n := (h 5).toNat) (z := z) (R := rw v (m + 1)) (bb := bb) (v := v) hl (by rw [n5]; exact r22) (by omega) hT N 0 (by decide) (by omega)
    rw [putM_0, wr_self] at L
    refine ⟨_, ?_, fin (rw v (m + 1)) (h 5).toNat (by omega) (fun _ _ _ => rfl) ?_ (fun j hj w hw => ?_) ?_⟩
    · rw [if_neg (fun z => q ((J_eq (by omega) (by decide)).mp z))]
      exact L
    · unfold kpN
      rw [if_pos (by omega)]
      omega
    · have k20 : kpM (h 5) M z j = M j := by
        unfold kpM
        rw [if_pos (by omega), if_neg (by omega)]
      rw [k20]
      exact hR.2.2 j (by omega) w hw
    · unfold kpM
      rw [if_pos (by omega), if_pos n5]
end MMAKES
