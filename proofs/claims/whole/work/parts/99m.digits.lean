/-! What is printed: digits, and the model's writing. -/
section DIGITS
variable {S S' : shp} {v w v' : vl} {a m N n l : Nat} {O : Nat → Int} {b : Int32}
def pt : Nat → Nat
  | 0 => 1
  | k + 1 => 10 * pt k
theorem pt_s {k : Nat} : pt (k + 1) = 10 * pt k := rfl
theorem pt_pos : ∀ k : Nat, 1 ≤ pt k
  | 0 => Nat.le_refl _
  | k + 1 => by
    have := pt_pos k
    rw [pt_s]
    omega
theorem pt_mono : ∀ {k j : Nat}, k ≤ j → pt k ≤ pt j
  | k, 0, h => by
    have : k = 0 := by omega
    rw [this]
    exact Nat.le_refl _
  | k, j + 1, h => by
    by_cases z : k = j + 1
    · rw [z]
      exact Nat.le_refl _
    · have := pt_mono (k := k) (j := j) (by omega)
      rw [pt_s]
      omega
/-- how many digits -/
def ndR : Nat → Nat → Nat → Nat → Nat
  | 0, i, _, _ => i
  | k + 1, i, pw, y => if y < pw then i else ndR k (i + 1) (10 * pw) y
theorem ndR_s {k i pw y : Nat} : ndR (k + 1) i pw y = if y < pw then i else ndR k (i + 1) (10 * pw) y := rfl
def nd (y : Nat) : Nat := ndR 9 1 10 y
def isD (y d : Nat) : Prop := y < pt d ∧ 1 ≤ d ∧ (d = 1 ∨ pt (d - 1) ≤ y)
theorem ndR_B {y : Nat} : ∀ (k i : Nat), 1 ≤ i → (i = 1 ∨ pt (i - 1) ≤ y) → y < pt (i + k) → isD y (ndR k i (pt i) y) ∧ ndR k i (pt i) y ≤ i + k
  | 0, i, h1, h2, h3 => ⟨⟨h3, h1, h2⟩, Nat.le_refl _⟩
  | k + 1, i, h1, h2, h3 => by
    rw [ndR_s]
    by_cases z : y < pt i
    · rw [if_pos z]
      exact ⟨⟨z, h1, h2⟩, by omega⟩
    · rw [if_neg z]
      have := ndR_B (y := y) k (i + 1) (by omega) (Or.inr (by rw [Nat.add_sub_cancel]; omega)) (by rw [show i + 1 + k = i + (k + 1) by omega]; exact h3)
      rw [pt_s] at this
      exact ⟨this.1, by omega⟩
theorem nd_B {y : Nat} (h : y < 10000000000) : isD y (nd y) ∧ nd y ≤ 10 := by
  have := ndR_B (y := y) 9 1 (Nat.le_refl _) (Or.inl rfl) (show y < pt 10 from h)
  exact this
theorem isD_10 {y d : Nat} (h : isD y d) (hy : y < 10000000000) : d ≤ 10 := by
  by_cases z : d ≤ 10
  · exact z
  · obtain ⟨h1, h2, h3⟩ := h
    have := pt_mono (show 10 ≤ d - 1 by omega)
    have e : pt 10 = 10000000000 := rfl
    rcases h3 with h3 | h3 <;> omega
/-- the j-th digit from behind -/
def dg (y j : Nat) : Nat := y / pt j % 10
theorem dg_B {y j : Nat} : dg y j < 10 := Nat.mod_lt _ (by decide)
theorem dg_2 {y j : Nat} : dg (y / 100) j = dg y (j + 2) := by
  unfold dg
  rw [Nat.div_div_eq_div_mul, show 100 * pt j = pt (j + 2) by rw [pt_s, pt_s]; omega]
/-- a number's text behind l, its places from the lim-th on hidden -/
def nuT (O : Nat → Int) (l lim y d : Nat) : Nat → Int := fun i => if l ≤ i ∧ i < l + d then (if i - l < lim then ((48 + dg y (l + d - 1 - i) : Nat) : Int) else 120) else O i
/-- a signed number's -/
def sgT (O : Nat → Int) (l : Nat) (x : Int) : Nat → Int := if x < 0 then nuT (put1 O l 45) (l + 1) 10 x.natAbs (nd x.natAbs) else nuT O l 10 x.natAbs (nd x.natAbs)
def sgL' (x : Int) : Nat := (if x < 0 then 1 else 0) + nd x.natAbs
theorem J_div {x y : Nat} (hx : x < 2147483648) (hy : 0 < y ∧ y < 2147483648) : J (x : Int) / J (y : Int) = J ((x / y : Nat) : Int) := by
  have e1 : (J (x : Int)).toInt = x := J_toInt (by omega) (by omega)
  have e2 : (J (y : Int)).toInt = y := J_toInt (by omega) (by omega)
  have hle : x / y ≤ x := Nat.div_le_self _ _
  have ht : Int.tdiv (x : Int) (y : Int) = ((x / y : Nat) : Int) := rfl
  refine i_eq.mpr ?_
  rw [i_div (by rw [e2]; omega), e1, e2, ht]
  obtain ⟨q, hq⟩ : ∃ q, q = x / y := ⟨_, rfl⟩
  rw [← hq] at hle ⊢
  rw [J_toInt (by omega) (by omega)]
-- the model's writing
def OM (v : vl) (m l : Nat) (O : Nat → Int) : Prop := rw v m 29 = J (l : Int) ∧ l ≤ 300 ∧ ∀ i, i < l → rw v (m + 7) i = J (O i)
/-- rows m and m + 7 alone, of the first the 30th place -/
def f07 (m : Nat) (v v' : vl) : Prop := v'.2 = v.2 ∧ (∀ y, y ≠ m → y ≠ m + 7 → rw v' y = rw v y) ∧ ∀ k, k ≠ 29 → rw v' m k = rw v m k
theorem f07_refl : f07 m v v := ⟨rfl, fun _ _ _ => rfl, fun _ _ => rfl⟩
theorem f07_tr {u : vl} (h1 : f07 m v u) (h2 : f07 m u v') : f07 m v v' := ⟨h2.1.trans h1.1, fun y y0 y7 => (h2.2.1 y y0 y7).trans (h1.2.1 y y0 y7), fun k hk => (h2.2.2 k hk).trans (h1.2.2 k hk)⟩
theorem gm_write {c : Int} (hl : mdL S m) (hO : OM v m l O) (h3 : l < 300) : ∃ v', F_gm_write m (J c) S v = some v' ∧ OM v' m (l + 1) (put1 O l c) ∧ f07 m v v' := by
  obtain ⟨o1, o2, o3⟩ := hO
  obtain ⟨l0, -, -, -, -, -, -, -, ⟨g28, l7⟩⟩ := hl
  have tn : (J (l : Int)).toInt = (l : Int) := J_toInt (by omega) (by omega)
  have ne : m ≠ m + 7 := by omega
  refine ⟨wr (wr v (m + 7) (up (rw v (m + 7)) l (J c))) m (up (rw v m) 29 (J ((l + 1 : Nat) : Int))), ?_, ⟨by rw [rw_wr, up_same], by omega, fun i hi => ?_⟩, rfl, fun y y0 y7 => by rw [rw_wr_ne y0, rw_wr_ne y7], fun k hk => by rw [rw_wr, up_ne hk]⟩
  · unfold F_gm_write
    rw [grd_true _ l0, g28]
    simp only [Option.bind_some]
    rw [grd_true _ l7, gi_rw, o1, grd_true _ (vin_of l7 tn h3), clampT tn]
    simp only [lt_def, si_wr, gi_x, rw_wr_ne ne, o1]
    rw [J_s]
  · rw [rw_wr_ne (by omega), rw_wr]
    unfold put1
    by_cases z : i = l
    · rw [z, up_same, if_pos rfl]
    · rw [up_ne z, if_neg z]
      exact o3 i (by omega)
def ptp : Nat → Nat
  | 0 => 0
  | k + 1 => pt k
theorem ptp_10 {k : Nat} : ptp (k + 1) / 10 = ptp k := by
  cases k with
  | zero => rfl
  | succ k =>
    show 10 * pt k / 10 = pt k
    omega
theorem gm_digitsL {y d lim : Nat} (hl : mdL S m) (hy : y < 2147483648) (hd : d ≤ 10) (hlim : lim ≤ 10) : ∀ (k F l0 : Nat) (v : vl), k ≤ d → k < F → l0 + d ≤ 300 → OM v m (l0 + (d - k)) (fun i => if i < l0 + (d - k) then nuT O l0 lim y d i else O i) →
    ∃ v', K_gm_writePart_21 N F S v m (J (y : Int)) (J ((ptp k : Nat) : Int)) (J ((lim : Int) - ((d - k : Nat) : Int))) = some v' ∧ OM v' m (l0 + d) (nuT O l0 lim y d) ∧ f07 m v v'
  | _, 0, _, _, _, h, _, _ => absurd h (Nat.not_lt_zero _)
  | 0, F + 1, l0, v, hk, _, h300, hO => by
    refine ⟨v, ?_, ⟨by rw [hO.1, Nat.sub_zero], h300, fun i hi => ?_⟩, f07_refl⟩
    · show Y_gm_writePart_21 N (K_gm_writePart_21 N F S) S v m (J (y : Int)) (J ((0 : Nat) : Int)) (J ((lim : Int) - ((d - 0 : Nat) : Int))) = _
      unfold Y_gm_writePart_21
      rw [if_neg (by decide)]
    · have h : rw v (m + 7) i = J (if i < l0 + (d - 0) then nuT O l0 lim y d i else O i) := hO.2.2 i (by omega)
      rw [if_pos (by omega)] at h
      exact h
  | k + 1, F + 1, l0, v, hk, hF, h300, hO => by
    have hp1 := pt_pos k
    have hp9 : pt k ≤ 1000000000 := by
      have := pt_mono (show k ≤ 9 by omega)
      have e : pt 9 = 1000000000 := rfl
      omega
    have q1 : J (y : Int) / J ((pt k : Nat) : Int) = J ((y / pt k : Nat) : Int) := J_div hy (by omega)
    have hle : y / pt k ≤ y := Nat.div_le_self _ _
    have edg : dg y k = y / pt k % 10 := rfl
    obtain ⟨Y, hY⟩ : ∃ Y, Y = y / pt k := ⟨_, rfl⟩
    rw [← hY] at q1 hle edg
    have q2 : J (Y : Int) / J 10 = J ((Y / 10 : Nat) : Int) := J_div (y := 10) (by omega) (by decide)
    have q3 : J ((ptp (k + 1) : Nat) : Int) / J 10 = J ((ptp k : Nat) : Int) := by
      have := J_div (x := ptp (k + 1)) (y := 10) (show pt k < 2147483648 by omega) (by decide)
      rw [ptp_10] at this
      exact this
    have nz : ¬ J ((pt k : Nat) : Int) = 0 := fun e => by
      have e' : J ((pt k : Nat) : Int) = J 0 := e
      have := (J_eq (by omega) (by decide)).mp e'
      omega
    have ec : J 48 + (J (Y : Int) - J ((Y / 10 : Nat) : Int) * J 10) = J (((48 + dg y k : Nat)) : Int) := by
      rw [← J_mul, ← J_sub, ← J_add, edg]
      congr 1
      omega
    -- the next place
    have step : ∀ c : Int, c = (if d - (k + 1) < lim then ((48 + dg y k : Nat) : Int) else 120) → ∀ v1, OM v1 m (l0 + (d - (k + 1)) + 1) (put1 (fun i => if i < l0 + (d - (k + 1)) then nuT O l0 lim y d i else O i) (l0 + (d - (k + 1))) c) → OM v1 m (l0 + (d - k)) (fun i => if i < l0 + (d - k) then nuT O l0 lim y d i else O i) := by
      intro c hc v1 h1
      have e1 : l0 + (d - (k + 1)) + 1 = l0 + (d - k) := by omega
      rw [e1] at h1
      refine ⟨h1.1, h1.2.1, fun i hi => ?_⟩
      rw [h1.2.2 i hi]
      show _ = J (if i < l0 + (d - k) then nuT O l0 lim y d i else O i)
      rw [if_pos hi]
      unfold put1
      by_cases z : i = l0 + (d - (k + 1))
      · rw [if_pos z, hc]
        unfold nuT
        rw [if_pos (show l0 ≤ i ∧ i < l0 + d by omega), show i - l0 = d - (k + 1) by omega, show l0 + d - 1 - i = k by omega]
      · rw [if_neg z]
        show J (if i < l0 + (d - (k + 1)) then nuT O l0 lim y d i else O i) = _
        rw [if_pos (by omega)]
    show ∃ v', Y_gm_writePart_21 N (K_gm_writePart_21 N F S) S v m (J (y : Int)) (J ((pt k : Nat) : Int)) (J ((lim : Int) - ((d - (k + 1) : Nat) : Int))) = some v' ∧ _
    have next : J ((lim : Int) - ((d - (k + 1) : Nat) : Int)) + J (-1) = J ((lim : Int) - ((d - k : Nat) : Int)) := by
      rw [← J_add]
      congr 1
      omega
    unfold Y_gm_writePart_21
    rw [if_pos ((J_lt (by decide) (by omega)).mpr (by omega))]
    by_cases z : d - (k + 1) < lim
    · obtain ⟨v1, a1, a2, a3⟩ := gm_write (c := ((48 + dg y k : Nat) : Int)) hl hO (by omega)
      obtain ⟨v', b1, b2, b3⟩ := gm_digitsL hl hy hd hlim k F l0 v1 (by omega) (by omega) h300 (step _ (by rw [if_pos z]) v1 a2)
      refine ⟨v', ?_, b2, f07_tr a3 b3⟩
      rw [if_pos ((J_lt (by decide) (by omega)).mpr (by omega)), grd_true _ nz, grd_true _ hl.1, q1, q2, ec, a1]
      simp only [Option.bind_some]
      rw [next, show J ((pt k : Nat) : Int) / J 10 = J ((ptp k : Nat) : Int) from q3]
      exact b1
    · obtain ⟨v1, a1, a2, a3⟩ := gm_write (c := 120) hl hO (by omega)
      obtain ⟨v', b1, b2, b3⟩ := gm_digitsL hl hy hd hlim k F l0 v1 (by omega) (by omega) h300 (step _ (by rw [if_neg z]) v1 a2)
      refine ⟨v', ?_, b2, f07_tr a3 b3⟩
      rw [if_neg (fun w => z (by have := (J_lt (by decide) (by omega)).mp w; omega)), grd_true _ hl.1, a1]
      simp only [Option.bind_some]
      rw [next, show J ((pt k : Nat) : Int) / J 10 = J ((ptp k : Nat) : Int) from q3]
      exact b1
theorem gm_part {y lim : Nat} (hN : 100 ≤ N) (hl : mdL S m) (hy : y < 2147483648) (hlim : lim ≤ 10) (hO : OM v m l O) (h300 : l + 10 ≤ 300) :
    ∃ v', F_gm_writePart N m (J (y : Int)) (J (lim : Int)) S v = some v' ∧ OM v' m (l + nd y) (nuT O l lim y (nd y)) ∧ f07 m v v' := by
  obtain ⟨nB, n10⟩ := nd_B (y := y) (by omega)
  obtain ⟨n1, n2, n3⟩ := id nB
  have h0 : OM v m (l + (nd y - nd y)) (fun i => if i < l + (nd y - nd y) then nuT O l lim y (nd y) i else O i) := by
    rw [Nat.sub_self, Nat.add_zero]
    refine ⟨hO.1, hO.2.1, fun i hi => ?_⟩
    rw [hO.2.2 i hi]
    show _ = J (if i < l then nuT O l lim y (nd y) i else O i)
    rw [if_pos hi]
    unfold nuT
    rw [if_neg (by omega)]
  obtain ⟨v', a1, a2, a3⟩ := gm_digitsL (N := N) (O := O) hl hy n10 hlim (nd y) N l v (Nat.le_refl _) (by omega) (by omega) h0
  have e0 : ((nd y - nd y : Nat) : Int) = 0 := by omega
  rw [e0, Int.sub_zero] at a1
  refine ⟨v', ?_, a2, a3⟩
  -- the greatest place
  have find : ∀ (k i F : Nat), 1 ≤ i → i + k = 10 → k < F → nd y = ndR k i (pt i) y → K_gm_writePart_2 N F S v m (J (y : Int)) (J (lim : Int)) (J ((pt (i - 1) : Nat) : Int)) = some v' := by
    intro k
    induction k with
    | zero =>
      intro i F hi hk hF hn
      obtain ⟨F', eF⟩ : ∃ F', F = F' + 1 := ⟨F - 1, by omega⟩
      subst eF
      have hn' : nd y = i := hn
      have i10 : i = 10 := by omega
      subst i10
      have q1 : J (y : Int) / J ((pt 9 : Nat) : Int) = J ((y / pt 9 : Nat) : Int) := J_div hy (by decide)
      have e9 : pt 9 = 1000000000 := rfl
      have h9 : y / pt 9 ≤ 9 := by rw [e9]; omega
      obtain ⟨Y, hY⟩ : ∃ Y, Y = y / pt 9 := ⟨_, rfl⟩
      rw [← hY] at q1 h9
      have nz : ¬ J ((pt 9 : Nat) : Int) = 0 := by decide
      show Y_gm_writePart_2 N (K_gm_writePart_2 N F' S) S v m (J (y : Int)) (J (lim : Int)) (J ((pt 9 : Nat) : Int)) = _
      unfold Y_gm_writePart_2
      rw [grd_true _ nz, q1, if_neg (fun w => by have := (J_lt (by decide) (by omega)).mp w; omega)]
      rw [hn'] at a1
      exact a1
    | succ k IH =>
      intro i F hi hk hF hn
      obtain ⟨F', eF⟩ : ∃ F', F = F' + 1 := ⟨F - 1, by omega⟩
      subst eF
      have hp1 := pt_pos (i - 1)
      have hp9 : pt (i - 1) ≤ 100000000 := by
        have := pt_mono (show i - 1 ≤ 8 by omega)
        have e : pt 8 = 100000000 := rfl
        omega
      have q1 : J (y : Int) / J ((pt (i - 1) : Nat) : Int) = J ((y / pt (i - 1) : Nat) : Int) := J_div hy (by omega)
      have hle : y / pt (i - 1) ≤ y := Nat.div_le_self _ _
      have nz : ¬ J ((pt (i - 1) : Nat) : Int) = 0 := fun e => by
        have e' : J ((pt (i - 1) : Nat) : Int) = J 0 := e
        have := (J_eq (by omega) (by decide)).mp e'
        omega
      have es : pt i = pt (i - 1) * 10 := by
        obtain ⟨j, ej⟩ : ∃ j, i = j + 1 := ⟨i - 1, by omega⟩
        subst ej
        rw [pt_s, Nat.add_sub_cancel, Nat.mul_comm]
      have cmp : y < pt i ↔ ¬ 9 < y / pt (i - 1) := by
        have h10 := Nat.div_lt_iff_lt_mul (x := y) (y := 10) (show 0 < pt (i - 1) by omega)
        rw [es, Nat.mul_comm]
        rw [← h10]
        exact ⟨fun w => by omega, fun w => by omega⟩
      obtain ⟨Y, hY⟩ : ∃ Y, Y = y / pt (i - 1) := ⟨_, rfl⟩
      rw [← hY] at q1 hle cmp
      show Y_gm_writePart_2 N (K_gm_writePart_2 N F' S) S v m (J (y : Int)) (J (lim : Int)) (J ((pt (i - 1) : Nat) : Int)) = _
      unfold Y_gm_writePart_2
      rw [grd_true _ nz, q1]
      rw [ndR_s] at hn
      by_cases z : y < pt i
      · rw [if_pos z] at hn
        rw [if_neg (fun w => cmp.mp z (by have := (J_lt (by decide) (by omega)).mp w; omega))]
        rw [hn] at a1
        obtain ⟨j, ej⟩ : ∃ j, i = j + 1 := ⟨i - 1, by omega⟩
        subst ej
        exact a1
      · rw [if_neg z] at hn
        have z' : 9 < Y := by
          by_cases q : 9 < Y
          · exact q
          · exact absurd (cmp.mpr q) z
        rw [if_pos ((J_lt (by decide) (by omega)).mpr (by omega))]
        have em : J ((pt (i - 1) : Nat) : Int) * J 10 = J ((pt (i + 1 - 1) : Nat) : Int) := by
          rw [← J_mul, Nat.add_sub_cancel, es]
          rfl
        rw [em]
        exact IH (i + 1) F' (by omega) (by omega) (by omega) hn
  unfold F_gm_writePart
  exact find 9 1 N (Nat.le_refl _) rfl (by omega) rfl
theorem gm_number {x : Int} (hN : 100 ≤ N) (hl : mdL S m) (hx : -2147483648 < x ∧ x < 2147483648) (hO : OM v m l O) (h300 : l + 11 ≤ 300) :
    ∃ v', F_gm_writeNumber N m (J x) S v = some v' ∧ OM v' m (l + sgL' x) (sgT O l x) ∧ f07 m v v' := by
  unfold F_gm_writeNumber sgT sgL'
  by_cases z : x < 0
  · have ea : F_ma_abs (J x) S = fun v => some (J ((x.natAbs : Nat) : Int)) := by
      funext v
      rw [ma_abs (by omega)]
      congr 2
      unfold absZ
      split <;> omega
    obtain ⟨v1, a1, a2, a3⟩ := gm_write (c := 45) hl hO (by omega)
    obtain ⟨v', b1, b2, b3⟩ := gm_part (N := N) (y := x.natAbs) (lim := 10) hN hl (by omega) (by decide) a2 (by omega)
    refine ⟨v', ?_, ?_, f07_tr a3 b3⟩
    · rw [if_pos ((J_lt (by omega) (by decide)).mpr z), grd_true _ hl.1, a1]
      simp only [Option.bind_some]
      rw [ea]
      simp only [Option.bind_some]
      rw [show J 10 = J ((10 : Nat) : Int) from rfl, b1]
      rfl
    · rw [if_pos z, if_pos z, show l + (1 + nd x.natAbs) = l + 1 + nd x.natAbs by omega]
      exact b2
  · have ea : F_ma_abs (J x) S = fun v => some (J ((x.natAbs : Nat) : Int)) := by
      funext v
      rw [ma_abs (by omega)]
      congr 2
      unfold absZ
      split <;> omega
    obtain ⟨v', b1, b2, b3⟩ := gm_part (N := N) (y := x.natAbs) (lim := 10) hN hl (by omega) (by decide) hO (by omega)
    refine ⟨v', ?_, ?_, b3⟩
    · rw [if_neg (fun w => z ((J_lt (by omega) (by decide)).mp w)), ea]
      simp only [Option.bind_some]
      rw [grd_true _ hl.1, show J 10 = J ((10 : Nat) : Int) from rfl, b1]
      rfl
    · rw [if_neg z, if_neg z, Nat.zero_add]
      exact b2
end DIGITS
