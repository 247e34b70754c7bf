/-! What is printed: numbers in the class's builder. -/
section CHARS
variable {S S' : shp} {v w v' : vl} {a b m N n l r len : Nat} {O : Nat → Int}
/-- the JDK's tables of digits -/
def dtT (S : shp) (v : vl) (a : Nat) : Prop := kin S (kad S 1) = some (12, 100) ∧ kin S (kad S 2) = some (12, 100) ∧ (kad S 1 < a ∧ kad S 2 < a) ∧ ∀ q, q < 100 → Int8.toInt32 (Int32.toInt8 (rw v (kad S 2) q)) &&& J 255 = J ((48 + q % 10 : Nat) : Int) ∧ Int8.toInt32 (Int32.toInt8 (rw v (kad S 1) q)) &&& J 255 = J ((48 + q / 10 : Nat) : Int)
theorem jm1 {p : Nat} (h : 1 ≤ p) : J (p : Int) + J (-1) = J ((p - 1 : Nat) : Int) := by
  rw [← J_add]
  congr 1
  omega
theorem jd100 {y : Nat} (hy : y < 2147483648) : J (-(y : Int)) / J 100 = J (-((y / 100 : Nat) : Int)) := by
  have e1 : (J (-(y : Int))).toInt = -(y : Int) := J_toInt (by omega) (by omega)
  have e2 : (J 100).toInt = 100 := tJ
  have ht : Int.tdiv (-(y : Int)) 100 = -((y / 100 : Nat) : Int) := by
    rw [Int.neg_tdiv]
    rfl
  refine i_eq.mpr ?_
  rw [i_div (by rw [e2]; decide), e1, e2, ht, J_toInt (by omega) (by omega)]
theorem dg_0 {y : Nat} : dg y 0 = y % 10 := by
  show y / 1 % 10 = y % 10
  omega
theorem dg_1 {y : Nat} : dg y 1 = y / 10 % 10 := rfl
theorem ji_get {sg : Nat} (hsg : sg = 0 ∨ sg = 1) (hT : dtT S v a) (kr : kin S r = some (2, len)) (hlen : len ≤ 142) : ∀ (k y d p F : Nat) (R : Nat → Int32), isD y d → d ≤ 2 * k → k < F → d + sg ≤ p → p ≤ len → y < 2147483648 → bts R →
    ∃ q R', K_ji_getChars_22 N F S (wr v r R) (J (-(y : Int))) r (J (p : Int)) (J (sg : Int)) = some (q, wr v r R') ∧ bts R' ∧ (∀ i, i < p - d - sg ∨ p ≤ i → R' i = R i) ∧ (∀ i, p - d ≤ i → i < p → R' i &&& J 255 = J ((48 + dg y (p - 1 - i) : Nat) : Int)) ∧ (sg = 1 → R' (p - d - 1) &&& J 255 = J 45)
  | 0, _, _, _, _, _, hD, h, _, _, _, _, _ => absurd hD.2.1 (by omega)
  | _ + 1, _, _, _, 0, _, _, _, h, _, _, _, _ => absurd h (Nat.not_lt_zero _)
  | k + 1, y, d, p, F + 1, R, hD, hk, hF, hp, hpl, hy, hb => by
    obtain ⟨D1, D2, D3⟩ := id hD
    obtain ⟨t1, t2, t3, t5⟩ := id hT
    have n1 : kad S 1 ≠ r := fun e => by rw [e, kr] at t1; cases t1
    have n2 : kad S 2 ≠ r := fun e => by rw [e, kr] at t2; cases t2
    have kr' : kin S r = some (2, alen S r) := by rw [alen_of kr]; exact kr
    have en : -(J (-(y : Int))) = J (y : Int) := by rw [← J_neg, Int.neg_neg]
    have tn : ∀ j : Nat, j < 1000 → (J (j : Int)).toInt = (j : Int) := fun j hj => J_toInt (by omega) (by omega)
    have E1 := jm1 (p := p) (by omega)
    have b45 : Int8.toInt32 (Int32.toInt8 (J 45)) &&& J 255 = J 45 := chr_8 (c := 45) (by decide)
    show ∃ q R', Y_ji_getChars_22 N (K_ji_getChars_22 N F S) S (wr v r R) (J (-(y : Int))) r (J (p : Int)) (J (sg : Int)) = some (q, wr v r R') ∧ _
    unfold Y_ji_getChars_22
    by_cases z : y < 100
    · obtain ⟨x2, x1⟩ := t5 y z
      obtain ⟨b2, eb2⟩ : ∃ b2, b2 = rw v (kad S 2) y := ⟨_, rfl⟩
      obtain ⟨b1, eb1⟩ : ∃ b1, b1 = rw v (kad S 1) y := ⟨_, rfl⟩
      rw [← eb2] at x2
      rw [← eb1] at x1
      rw [if_pos ((J_lt (by decide) (by omega)).mpr (by omega)), grd_true _ t2, en, grd_true _ (vin_of t2 (tn y (by omega)) z), grd_true _ kr', E1, grd_true _ (vin_of kr (tn (p - 1) (by omega)) (by omega)), clampT (tn (p - 1) (by omega)), clampT (tn y (by omega))]
      simp only [lt_def, si_wr, gi_x, rw_wr, wr_wr, rw_wr_ne n2, rw_wr_ne n1]
      rw [← eb2, ← eb1]
      by_cases z9 : 9 < y
      · have d2 : d = 2 := by
          by_cases q1 : d = 1
          · rw [q1] at D1
            have : y < 10 := D1
            omega
          · by_cases q2 : d = 2
            · exact q2
            · have := pt_mono (show 2 ≤ d - 1 by omega)
              have e : pt 2 = 100 := rfl
              omega
        subst d2
        have E2 := jm1 (p := p - 1) (by omega)
        rw [if_pos ((J_lt (by omega) (by decide)).mpr (by omega)), grd_true _ t1, grd_true _ (vin_of t1 (tn y (by omega)) z), E2, grd_true _ (vin_of kr (tn (p - 1 - 1) (by omega)) (by omega)), clampT (tn (p - 1 - 1) (by omega))]
        rcases hsg with s0 | s1
        · subst s0
          refine ⟨J ((p - 1 - 1 : Nat) : Int), up (up R (p - 1) (Int8.toInt32 (Int32.toInt8 b2))) (p - 1 - 1) (Int8.toInt32 (Int32.toInt8 b1)), ?_, bts_up (bts_up hb), fun i hi => ?_, fun i h1 h2 => ?_, fun h => absurd h (by decide)⟩
          · rw [if_pos (show J ((0 : Nat) : Int) = J 0 from rfl)]
          · rw [up_ne (by omega), up_ne (by omega)]
          · by_cases q : i = p - 1
            · rw [q, up_ne (by omega), up_same, show p - 1 - (p - 1) = 0 by omega, dg_0]
              exact x2
            · have : i = p - 1 - 1 := by omega
              rw [this, up_same, show p - 1 - (p - 1 - 1) = 1 by omega, dg_1, Nat.mod_eq_of_lt (by omega)]
              exact x1
        · subst s1
          have E3 := jm1 (p := p - 1 - 1) (by omega)
          refine ⟨J ((p - 1 - 1 - 1 : Nat) : Int), up (up (up R (p - 1) (Int8.toInt32 (Int32.toInt8 b2))) (p - 1 - 1) (Int8.toInt32 (Int32.toInt8 b1))) (p - 1 - 1 - 1) (Int8.toInt32 (Int32.toInt8 (J 45))), ?_, bts_up (bts_up (bts_up hb)), fun i hi => ?_, fun i h1 h2 => ?_, fun _ => ?_⟩
          · rw [if_neg (by decide), E3, grd_true _ (vin_of kr (tn (p - 1 - 1 - 1) (by omega)) (by omega)), clampT (tn (p - 1 - 1 - 1) (by omega))]
          · rw [up_ne (by omega), up_ne (by omega), up_ne (by omega)]
          · rw [up_ne (by omega)]
            by_cases q : i = p - 1
            · rw [q, up_ne (by omega), up_same, show p - 1 - (p - 1) = 0 by omega, dg_0]
              exact x2
            · have : i = p - 1 - 1 := by omega
              rw [this, up_same, show p - 1 - (p - 1 - 1) = 1 by omega, dg_1, Nat.mod_eq_of_lt (by omega)]
              exact x1
          · rw [show p - 2 - 1 = p - 1 - 1 - 1 by omega, up_same]
            exact b45
      · have d1 : d = 1 := by
          by_cases q1 : d = 1
          · exact q1
          · have := pt_mono (show 1 ≤ d - 1 by omega)
            have e : pt 1 = 10 := rfl
            omega
        subst d1
        rw [if_neg (fun w => z9 (by have := (J_lt (by omega) (by decide)).mp w; omega))]
        rcases hsg with s0 | s1
        · subst s0
          refine ⟨J ((p - 1 : Nat) : Int), up R (p - 1) (Int8.toInt32 (Int32.toInt8 b2)), ?_, bts_up hb, fun i hi => ?_, fun i h1 h2 => ?_, fun h => absurd h (by decide)⟩
          · rw [if_pos (show J ((0 : Nat) : Int) = J 0 from rfl)]
          · rw [up_ne (by omega)]
          · have : i = p - 1 := by omega
            rw [this, up_same, show p - 1 - (p - 1) = 0 by omega, dg_0]
            exact x2
        · subst s1
          have E2 := jm1 (p := p - 1) (by omega)
          refine ⟨J ((p - 1 - 1 : Nat) : Int), up (up R (p - 1) (Int8.toInt32 (Int32.toInt8 b2))) (p - 1 - 1) (Int8.toInt32 (Int32.toInt8 (J 45))), ?_, bts_up (bts_up hb), fun i hi => ?_, fun i h1 h2 => ?_, fun _ => ?_⟩
          · rw [if_neg (by decide), E2, grd_true _ (vin_of kr (tn (p - 1 - 1) (by omega)) (by omega)), clampT (tn (p - 1 - 1) (by omega))]
          · rw [up_ne (by omega), up_ne (by omega)]
          · have : i = p - 1 := by omega
            rw [this, up_ne (by omega), up_same, show p - 1 - (p - 1) = 0 by omega, dg_0]
            exact x2
          · rw [up_same]
            exact b45
    · have q100 : y % 100 < 100 := Nat.mod_lt _ (by decide)
      obtain ⟨x2, x1⟩ := t5 (y % 100) q100
      obtain ⟨b2, eb2⟩ : ∃ b2, b2 = rw v (kad S 2) (y % 100) := ⟨_, rfl⟩
      obtain ⟨b1, eb1⟩ : ∃ b1, b1 = rw v (kad S 1) (y % 100) := ⟨_, rfl⟩
      rw [← eb2] at x2
      rw [← eb1] at x1
      have d3 : 3 ≤ d := by
        by_cases q : 3 ≤ d
        · exact q
        · have := pt_mono (show d ≤ 2 by omega)
          have e : pt 2 = 100 := rfl
          omega
      have e100 : pt d = 100 * pt (d - 2) := by
        obtain ⟨j, ej⟩ : ∃ j, d = j + 2 := ⟨d - 2, by omega⟩
        subst ej
        rw [pt_s, pt_s, Nat.add_sub_cancel]
        omega
      have e101 : pt (d - 1) = 100 * pt (d - 2 - 1) := by
        obtain ⟨j, ej⟩ : ∃ j, d = j + 3 := ⟨d - 3, by omega⟩
        subst ej
        rw [show j + 3 - 1 = j + 1 + 1 by omega, show j + 3 - 2 - 1 = j by omega, pt_s, pt_s]
        omega
      have hD' : isD (y / 100) (d - 2) := by
        refine ⟨by omega, by omega, ?_⟩
        rcases D3 with D3 | D3
        · omega
        · rw [e101] at D3
          exact Or.inr (by omega)
      have E2 := jm1 (p := p - 1) (by omega)
      have q15 : J (-(y : Int)) / J 100 = J (-((y / 100 : Nat) : Int)) := jd100 hy
      have r15 : J (-((y / 100 : Nat) : Int)) * J 100 - J (-(y : Int)) = J ((y % 100 : Nat) : Int) := by
        rw [← J_mul, ← J_sub]
        congr 1
        omega
      obtain ⟨R2, eR2⟩ : ∃ R2, R2 = up (up R (p - 1) (Int8.toInt32 (Int32.toInt8 b2))) (p - 1 - 1) (Int8.toInt32 (Int32.toInt8 b1)) := ⟨_, rfl⟩
      obtain ⟨q, R', f1, f2, f3, f4, f5⟩ := ji_get hsg hT kr hlen k (y / 100) (d - 2) (p - 1 - 1) F R2 hD' (by omega) (by omega) (by omega) (by omega) (by omega) (by rw [eR2]; exact bts_up (bts_up hb))
      refine ⟨q, R', ?_, f2, fun i hi => ?_, fun i h1 h2 => ?_, fun h => ?_⟩
      · rw [if_neg (fun w => z (by have := (J_lt (by decide) (by omega)).mp w; omega))]
        simp only [lt_def]
        rw [q15, r15, grd_true _ t2, grd_true _ (vin_of t2 (tn (y % 100) (by omega)) q100), grd_true _ kr', E1, grd_true _ (vin_of kr (tn (p - 1) (by omega)) (by omega)), clampT (tn (p - 1) (by omega)), clampT (tn (y % 100) (by omega))]
        simp only [si_wr, gi_x, rw_wr, wr_wr, rw_wr_ne n2, rw_wr_ne n1]
        rw [← eb2, ← eb1, grd_true _ t1, grd_true _ (vin_of t1 (tn (y % 100) (by omega)) q100), E2, grd_true _ (vin_of kr (tn (p - 1 - 1) (by omega)) (by omega)), clampT (tn (p - 1 - 1) (by omega)), ← eR2]
        exact f1
      · rw [f3 i (by omega), eR2, up_ne (by omega), up_ne (by omega)]
      · by_cases c1 : i = p - 1
        · rw [f3 i (by omega), eR2, c1, up_ne (by omega), up_same, show p - 1 - (p - 1) = 0 by omega, dg_0, show y % 10 = y % 100 % 10 by omega]
          exact x2
        · by_cases c2 : i = p - 1 - 1
          · rw [f3 i (by omega), eR2, c2, up_same, show p - 1 - (p - 1 - 1) = 1 by omega, dg_1, show y / 10 % 10 = y % 100 / 10 by omega]
            exact x1
          · rw [f4 i (by omega) (by omega), dg_2, show p - 1 - 1 - 1 - i + 2 = p - 1 - i by omega]
      · have := f5 h
        rw [show p - 1 - 1 - (d - 2) - 1 = p - d - 1 by omega] at this
        exact this
/-- how many letters -/
theorem ji_sizeL {y sg : Nat} (hy : y < 2147483648) : ∀ (k i F : Nat), i + k = 10 → k < F → 1 ≤ i → K_ji_stringSize_16 N F S v (J (-(y : Int))) (J (sg : Int)) (J (-((pt i : Nat) : Int))) (J (i : Int)) = some (J ((ndR k i (pt i) y + sg : Nat) : Int))
  | _, _, 0, _, h, _ => absurd h (Nat.not_lt_zero _)
  | 0, i, F + 1, hk, _, _ => by
    have i10 : i = 10 := by omega
    subst i10
    show Y_ji_stringSize_16 N (K_ji_stringSize_16 N F S v) S v (J (-(y : Int))) (J (sg : Int)) (J (-((pt 10 : Nat) : Int))) (J ((10 : Nat) : Int)) = _
    unfold Y_ji_stringSize_16
    rw [if_neg (by decide), ← J_add]
    rfl
  | k + 1, i, F + 1, hk, hF, hi => by
    have hp9 : pt i ≤ 1000000000 := by
      have := pt_mono (show i ≤ 9 by omega)
      have e : pt 9 = 1000000000 := rfl
      omega
    have hp1 := pt_pos i
    show Y_ji_stringSize_16 N (K_ji_stringSize_16 N F S v) S v (J (-(y : Int))) (J (sg : Int)) (J (-((pt i : Nat) : Int))) (J (i : Int)) = _
    unfold Y_ji_stringSize_16
    rw [if_pos ((J_lt (by omega) (by decide)).mpr (by omega)), ndR_s]
    by_cases z : y < pt i
    · rw [if_pos ((J_lt (by omega) (by omega)).mpr (by omega)), if_pos z, ← J_add]
      rfl
    · have e10 : J 10 * J (-((pt i : Nat) : Int)) = J (-((pt (i + 1) : Nat) : Int)) := by
        rw [← J_mul, pt_s]
        congr 1
        omega
      rw [if_neg (fun w => z (by have := (J_lt (by omega) (by omega)).mp w; omega)), if_neg z, e10, J_s]
      have := ji_sizeL (sg := sg) hy k (i + 1) F (by omega) (by omega) (by omega)
      rw [pt_s] at this
      rw [pt_s]
      exact this
theorem ji_size {x : Int} (hN : 100 ≤ N) (hx : -2147483648 < x ∧ x < 2147483648) : F_ji_stringSize N (J x) S v = some (J ((sgL' x : Nat) : Int)) := by
  unfold F_ji_stringSize sgL'
  by_cases z : x < 0
  · have e := ji_sizeL (N := N) (S := S) (v := v) (y := x.natAbs) (sg := 1) (by omega) 9 1 N rfl (by omega) (Nat.le_refl _)
    rw [show -((x.natAbs : Nat) : Int) = x by omega] at e
    rw [if_pos ((J_lt (by omega) (by decide)).mpr z), if_pos z, Nat.add_comm]
    exact e
  · have e := ji_sizeL (N := N) (S := S) (v := v) (y := x.natAbs) (sg := 0) (by omega) 9 1 N rfl (by omega) (Nat.le_refl _)
    rw [show -((x.natAbs : Nat) : Int) = -x by omega] at e
    rw [if_neg (fun w => z ((J_lt (by omega) (by decide)).mp w)), if_neg z, Nat.zero_add, ← J_neg]
    exact e
/-- a number more -/
theorem sb_num {x : Int} (hN : 100 ≤ N) (hw : wfS S) (hT : dtT S v a) (hO : OC S v b l O r len) (hx : -2147483648 < x ∧ x < 2147483648) (hl : l + 11 ≤ 142) (hab : a ≤ b) (har : a ≤ r) :
    ∃ S' v' r' len', F_sb_append2 N b (J x) S v = some (some b, S', v') ∧ OC S' v' b (l + sgL' x) (sgT O l x) r' len' ∧ exP b r len S v S' v' r' len' := by
  obtain ⟨k0, ⟨c1, c3⟩, g0, kr, hb, hbt, ht⟩ := id hO
  obtain ⟨nB, n10⟩ := nd_B (y := x.natAbs) (by omega)
  have hs11 : sgL' x ≤ 11 ∧ 1 ≤ sgL' x := by
    unfold sgL'
    have := nB.2.1
    split <;> omega
  have e3 : J (l : Int) + J ((sgL' x : Nat) : Int) = J ((l + sgL' x : Nat) : Int) := by rw [← J_add]; rfl
  obtain ⟨S1, v1, r1, len1, e1, O1, h1, X1, eb⟩ := ab_ensure (mn := l + sgL' x) hw hO (by omega) (by omega)
  obtain ⟨q0, ⟨d1, d3⟩, f0, qr, pb, pbt, pt'⟩ := id O1
  have hrb := OC_ne O1
  obtain ⟨t1, t2, t3, t5⟩ := id hT
  have T1 : dtT S1 v1 a := by
    obtain ⟨y1, y2, y3, y4, y5, y6, -⟩ := X1
    have u1 := kin_lt hw t1
    have u2 := kin_lt hw t2
    refine ⟨by rw [y5, y4 _ u1]; exact t1, by rw [y5, y4 _ u2]; exact t2, by rw [y5]; exact t3, fun q hq => ?_⟩
    rw [y5, y2 _ u2 (by omega) (by omega), y2 _ u1 (by omega) (by omega)]
    exact t5 q hq
  have r1lt := kin_lt (X1.2.2.2.2.2.2.2.2.2.2 hw) qr
  -- both signs
  have main : ∀ sg : Nat, (sg = 0 ∨ sg = 1) → sgL' x = sg + nd x.natAbs → (sg = 1 → x < 0) → (sg = 0 → ¬ x < 0) → ∃ q R', K_ji_getChars_22 N N S1 v1 (J (-((x.natAbs : Nat) : Int))) r1 (J ((l + sgL' x : Nat) : Int)) (J (sg : Int)) = some (q, wr v1 r1 R') ∧ bts R' ∧ ∀ i, i < l + sgL' x → R' i &&& J 255 = J (sgT O l x i) := by
    intro sg hsg hL hs1 hs0
    obtain ⟨q, R', a1, a2, a3, a4, a5⟩ := ji_get (N := N) (len := len1) hsg T1 qr (by omega) 5 x.natAbs (nd x.natAbs) (l + sgL' x) N (rw v1 r1) nB (by omega) (by omega) (by omega) (by omega) (by omega) pbt
    rw [wr_self] at a1
    refine ⟨q, R', a1, a2, fun i hi => ?_⟩
    by_cases c1 : l + sg ≤ i
    · rw [a4 i (by omega) hi]
      unfold sgT
      rcases hsg with s0 | s1
      · rw [if_neg (hs0 s0)]
        unfold nuT
        rw [if_pos (show l ≤ i ∧ i < l + nd x.natAbs by omega), if_pos (by omega), show l + sgL' x - 1 - i = l + nd x.natAbs - 1 - i by omega]
      · rw [if_pos (hs1 s1)]
        unfold nuT
        rw [if_pos (show l + 1 ≤ i ∧ i < l + 1 + nd x.natAbs by omega), if_pos (by omega), show l + sgL' x - 1 - i = l + 1 + nd x.natAbs - 1 - i by omega]
    · rcases hsg with s0 | s1
      · rw [a3 i (by omega), pt' i (by omega)]
        unfold sgT
        rw [if_neg (hs0 s0)]
        unfold nuT
        rw [if_neg (by omega)]
      · unfold sgT
        rw [if_pos (hs1 s1)]
        unfold nuT
        rw [if_neg (by omega)]
        unfold put1
        by_cases c2 : i = l
        · rw [if_pos c2]
          have := a5 s1
          rw [show l + sgL' x - nd x.natAbs - 1 = l by omega] at this
          rw [c2]
          exact this
        · rw [if_neg c2, a3 i (by omega)]
          exact pt' i (by omega)
  have gt : ∃ q R', F_ji_getChars N (J x) (J ((l + sgL' x : Nat) : Int)) r1 S1 v1 = some (q, wr v1 r1 R') ∧ bts R' ∧ ∀ i, i < l + sgL' x → R' i &&& J 255 = J (sgT O l x i) := by
    unfold F_ji_getChars
    by_cases z : x < 0
    · obtain ⟨q, R', a1, a2, a3⟩ := main 1 (Or.inr rfl) (by unfold sgL'; rw [if_pos z]) (fun _ => z) (fun h => absurd h (by decide))
      rw [show -((x.natAbs : Nat) : Int) = x by omega] at a1
      exact ⟨q, R', by rw [if_pos ((J_lt (by omega) (by decide)).mpr z)]; exact a1, a2, a3⟩
    · obtain ⟨q, R', a1, a2, a3⟩ := main 0 (Or.inl rfl) (by unfold sgL'; rw [if_neg z]) (fun h => absurd h (by decide)) (fun _ => z)
      rw [show -((x.natAbs : Nat) : Int) = -x by omega] at a1
      exact ⟨q, R', by rw [if_neg (fun w => z ((J_lt (by omega) (by decide)).mp w)), ← J_neg]; exact a1, a2, a3⟩
  obtain ⟨q, R', a1, a2, a3⟩ := gt
  refine ⟨S1, wr (wr v1 r1 R') b (up (rw v1 b) 3 (J ((l + sgL' x : Nat) : Int))), r1, len1, ?_, ⟨q0, ⟨?_, ?_⟩, f0, qr, by omega, ?_, fun i hi => ?_⟩, exP_tr X1 (exP_tr (exP_wr (Or.inr rfl)) (exP_wr (Or.inl rfl)))⟩
  · unfold F_sb_append2 F_ab_append2
    rw [grd_true _ k0, grd_true _ k0, ji_size hN hx]
    simp only [Option.bind_some]
    rw [gi_rw, c3, e3, e1]
    simp only [Option.bind_some]
    rw [ab_latin O1]
    simp only [Option.bind_some]
    rw [if_neg (show ¬ J 1 = J 0 by decide), f0]
    simp only [Option.bind_some]
    rw [a1]
    simp only [Option.bind_some, lt_def, si_wr, oc2]
    rw [rw_wr_ne hrb.symm]
  · rw [rw_wr, up_ne (by decide)]; exact d1
  · rw [rw_wr, up_same]
  · rw [rw_wr_ne hrb, rw_wr]
    exact a2
  · rw [rw_wr_ne hrb, rw_wr]
    exact a3 i hi
end CHARS
