/-! The clock goes up to a time. -/
section PASSTO
/-- so many ticks bring the clock beyond T, and no fewer -/
def isTo (T : Int) (c : Nat → Int) (m : Nat) : Prop := T < (tkN m c) 4 ∧ ∀ j, j < m → (tkN j c) 4 ≤ T
theorem isTo_ex {T : Int} {c : Nat → Int} (h : ckI c) : ∃ m, isTo T c m := by
  have key : ∀ n : Nat, T < (tkN n c) 4 → ∃ m, isTo T c m := by
    intro n
    induction n with
    | zero => exact fun q => ⟨0, q, fun j hj => absurd hj (Nat.not_lt_zero _)⟩
    | succ n ih =>
      intro q
      by_cases h1 : T < (tkN n c) 4
      · exact ih h1
      · refine ⟨n + 1, q, fun j hj => ?_⟩
        have := tkN_mono h (show j ≤ n by omega)
        omega
  refine key ((T - c 4).toNat + 1) ?_
  have := (tkN_inv h ((T - c 4).toNat + 1)).2.2.1
  omega
theorem isTo_un {T : Int} {c : Nat → Int} {m n : Nat} (h1 : isTo T c m) (h2 : isTo T c n) : m = n := by
  rcases Nat.lt_trichotomy m n with q | q | q
  · have := h2.2 m q; have := h1.1; omega
  · exact q
  · have := h1.2 n q; have := h2.1; omega
theorem isTo_sh {T : Int} {c : Nat → Int} {k m : Nat} (h : isTo T c m) (hk : k ≤ m) : isTo T (tkN k c) (m - k) := by
  refine ⟨?_, fun j hj => ?_⟩
  · rw [← tkN_add, show k + (m - k) = m by omega]; exact h.1
  · rw [← tkN_add]; exact h.2 _ (by omega)
theorem isTo_le {T : Int} {c : Nat → Int} {m : Nat} (h : ckI c) (hm : isTo T c m) (hT : -9 ≤ T - c 4) : 9 * (m : Int) ≤ T - c 4 + 9 := by
  match m with
  | 0 => omega
  | m + 1 =>
    have h1 := hm.2 m (by omega)
    have h2 := (tkN_inv h m).2.2.1
    omega
theorem isTo_end {T : Int} {c : Nat → Int} {m : Nat} (h : ckI c) (hm : isTo T c m) : (tkN m c) 4 ≤ T + 1000 ∨ m = 0 := by
  match m with
  | 0 => exact Or.inr rfl
  | m + 1 =>
    left
    have h1 := hm.2 m (by omega)
    have h2 := (tkZ_inv (tkN_inv h m).1).2.2
    show tkZ (tkN m c) 4 ≤ _
    omega
theorem ck_aging {S : shp} {v : vl} {a : Nat} {c : Nat → Int} (hk : kin S a = some (0, 0)) (hc : rw v a = iz c) (hr : rB c) (hi : ckI c) (h4 : c 4 < 900000000) (hm : c 5 % 100 = 0) : F_ck_timeOfAging a S v = some (J ((tkN 99 c) 4)) := by
  obtain ⟨b0, b1, b2, b3, b4, b5⟩ := hi
  have g : ∀ k, (gi v a k).toInt = c k := fun k => by rw [gi_rw, hc]; exact zi_iz hr k
  have m1 : (J 99 * gi v a 1).toInt = 99 * c 1 := by rw [i_mul, tJ, g] <;> (rw [tJ, g]; omega)
  have m0 : (J 99 * gi v a 0).toInt = 99 * c 0 := by rw [i_mul, tJ, g] <;> (rw [tJ, g]; omega)
  have ms : (gi v a 3 + J 99 * gi v a 1).toInt = c 3 + 99 * c 1 := by rw [i_add, m1, g] <;> (rw [m1, g]; omega)
  have q1 : (gi v a 4 + J 99 * gi v a 0).toInt = c 4 + 99 * c 0 := by rw [i_add, m0, g] <;> (rw [m0, g]; omega)
  unfold F_ck_timeOfAging
  rw [grd_true _ hk, fdiv_ok (by rw [tJ]; decide) (by rw [tJ]; decide)]
  simp only [Option.bind_some]
  refine congrArg some (i_eq.mpr ?_)
  have e1000 : (J 1000).toInt = 1000 := tJ
  have q2 : (J ((gi v a 3 + J 99 * gi v a 1).toInt / (J 1000).toInt)).toInt = (c 3 + 99 * c 1) / 1000 := by
    rw [ms, e1000]; exact J_toInt (by omega) (by omega)
  rw [tkN_99 hm b3]
  have e : lpZ 99 c 4 = c 4 + (99 * c 0 + (c 3 + 99 * c 1) / 1000) := rfl
  rw [i_add, q1, q2, e, J_toInt (by omega) (by omega)]
  · omega
  · rw [q1, q2]; omega
  · rw [q1, q2]; omega
theorem ck_passTo {S : shp} {a N : Nat} (hk : kin S a = some (0, 0)) {T : Int} (hT : -1 ≤ T ∧ T ≤ 3000000) : ∀ (n m i : Nat) (v : vl) (c : Nat → Int), rw v a = iz c → rB c → ckI c → isTo T c m → c 4 < 4000000 → c 5 + m < 4000000 → m < n → i + m < 2000000 →
    K_ck_passTo_2 N n S v a (J T) (J i) = some (wr v a (iz (tkN m c)))
  | 0, m, i, v, c, _, _, _, _, _, _, h, _ => absurd h (Nat.not_lt_zero _)
  | n + 1, m, i, v, c, hc, hr, hi, hto, h4, h5, hn, him => by
    show Y_ck_passTo_2 N (K_ck_passTo_2 N n S) S v a (J T) (J i) = _
    have hI := hi.2.2.2.2
    have ti : (J i).toInt = i := J_toInt (by omega) (by omega)
    have tT : (J T).toInt = T := J_toInt (by omega) (by omega)
    have g4 : (gi v a 4).toInt = c 4 := by rw [gi_rw, hc]; exact zi_iz hr 4
    unfold Y_ck_passTo_2
    rw [if_pos (i_lt.mpr (by rw [ti, tJ]; omega)), grd_true _ hk]
    by_cases h0 : T < c 4
    · rw [if_pos (i_lt.mpr (by rw [tT, g4]; exact h0))]
      have : m = 0 := isTo_un hto ⟨h0, fun j hj => absurd hj (Nat.not_lt_zero _)⟩
      subst this
      show some v = some (wr v a (iz c))
      rw [← hc, wr_self]
    · rw [if_neg (fun q => h0 (by have := i_lt.mp q; rw [tT, g4] at this; exact this))]
      have hm0 : m ≠ 0 := fun q => by subst q; exact h0 hto.1
      have step : ∀ (k : Nat) (w : vl), k + 1 ≤ m → w = wr v a (iz (tkN (k + 1) c)) → K_ck_passTo_2 N n S w a (J T) (J i + J 1) = some (wr v a (iz (tkN m c))) := by
        intro k w hkm hw
        obtain ⟨g1, g2, g3, g4', -⟩ := tkN_inv hi (k + 1)
        have hend : (tkN (k + 1) c) 4 ≤ T + 1000 := by
          have h1 := hto.2 k (by omega)
          have h2 := (tkZ_inv (tkN_inv hi k).1).2.2
          show tkZ (tkN k c) 4 ≤ _
          omega
        have ji : J i + J 1 = J ((i + 1 : Nat) : Int) := by
          refine i_eq.mpr ?_
          rw [i_add, ti, tJ, J_toInt (by omega) (by omega)]
          · omega
          · rw [ti, tJ]; omega
          · rw [ti, tJ]; omega
        have hb : rB (tkN (k + 1) c) := by
          refine tkN_rB hi hr (k + 1) ?_ (by omega)
          have := isTo_le hi hto (by omega)
          omega
        rw [ji]
        have := ck_passTo (N := N) hk hT n (m - (k + 1)) (i + 1) w (tkN (k + 1) c) (by rw [hw, rw_wr]) hb g1 (isTo_sh hto hkm) (by omega) (by omega) (by omega) (by omega)
        rw [this, hw, wr_wr, ← tkN_add]
        refine congrArg (fun j => some (wr v a (iz (tkN j c)))) (by omega)
      by_cases ha : c 5 % 100 = 0
      · rw [if_pos ((i_aged hc hr hI.2).mpr ha), ck_aging hk hc hr hi (by omega) ha]
        simp only [Option.bind_some]
        have e99 : (J ((tkN 99 c) 4)).toInt = (tkN 99 c) 4 := by
          have := tkN_inv hi 99
          exact J_toInt (by omega) (by omega)
        by_cases hl : T < (tkN 99 c) 4
        · rw [if_pos (i_lt.mpr (by rw [tT, e99]; exact hl)), ck_tick1 hk hc hr hi (by omega) (by omega)]
          simp only [Option.bind_some]
          exact step 0 _ (by omega) rfl
        · rw [if_neg (fun q => hl (by have := i_lt.mp q; rw [tT, e99] at this; exact this))]
          obtain ⟨v1, q1, q2⟩ := ck_leap hk hc hr hi (by omega) (by omega) ha
          rw [q1]
          simp only [Option.bind_some]
          rw [q2]
          simp only [Option.bind_some]
          refine step 99 _ ?_ rfl
          by_cases hq : 100 ≤ m
          · exact hq
          · have := tkN_mono hi (show m ≤ 99 by omega)
            have := hto.1
            omega
      · rw [if_neg (fun q => ha ((i_aged hc hr hI.2).mp q)), ck_tick1 hk hc hr hi (by omega) (by omega)]
        simp only [Option.bind_some]
        exact step 0 _ (by omega) rfl
end PASSTO
