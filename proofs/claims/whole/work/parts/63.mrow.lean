/-! The model's row and what is copied. -/
section MROW
def cpR (f g : Nat → Int32) (i j s : Nat) : Nat → Int32 := fun k => if j ≤ k ∧ k < j + s then f (i + (k - j)) else g k
theorem gm_copiesLoop {S : shp} {v : vl} {a b la lb i j cnt N : Nat} (ha : kin S a = some (1, la)) (hb : kin S b = some (1, lb)) (hi : i + cnt ≤ la) (hj : j + cnt ≤ lb) (hla : la < 100000) (hlb : lb < 100000) (hab : a ≠ b ∨ j ≤ i) : ∀ (n s : Nat), s ≤ cnt → cnt - s < n →
    K_gm_copies_3 N n S (wr v b (cpR (rw v a) (rw v b) i j s)) a (J i) b (J j) (J cnt) (J s) = some (wr v b (cpR (rw v a) (rw v b) i j cnt))
  | 0, s, _, h => absurd h (Nat.not_lt_zero _)
  | n + 1, s, hs, hn => by
    have ts : (J (s : Int)).toInt = s := J_toInt (by omega) (by omega)
    have tc : (J (cnt : Int)).toInt = cnt := J_toInt (by omega) (by omega)
    show Y_gm_copies_3 N (K_gm_copies_3 N n S) S _ a (J i) b (J j) (J cnt) (J s) = _
    unfold Y_gm_copies_3
    by_cases q : s < cnt
    · have t1 : (J (i : Int) + J (s : Int)).toInt = ((i + s : Nat) : Int) := by
        rw [← J_add, J_toInt (by omega) (by omega)]
        omega
      have t2 : (J (j : Int) + J (s : Int)).toInt = ((j + s : Nat) : Int) := by
        rw [← J_add, J_toInt (by omega) (by omega)]
        omega
      rw [if_pos (i_lt.mpr (by rw [ts, tc]; omega)), grd_true _ (Or.inl (by rw [alen_of ha]; exact ha)), grd_true _ (vin_of ha t1 (by omega)), grd_true _ (by rw [alen_of hb]; exact hb), grd_true _ (vin_of hb t2 (by omega)), clampT t1, clampT t2]
      simp only [lt_def, si_wr, wr_wr, rw_wr, gi_x]
      have e : up (cpR (rw v a) (rw v b) i j s) (j + s) (rw (wr v b (cpR (rw v a) (rw v b) i j s)) a (i + s)) = cpR (rw v a) (rw v b) i j (s + 1) := by
        have r : rw (wr v b (cpR (rw v a) (rw v b) i j s)) a (i + s) = rw v a (i + s) := by
          by_cases z : a = b
          · subst z
            rw [rw_wr]
            unfold cpR
            rw [if_neg (by omega)]
          · rw [rw_wr_ne z]
        rw [r]
        funext k
        unfold up cpR
        by_cases z : k = j + s
        · subst z
          rw [if_pos rfl, if_pos ⟨by omega, by omega⟩]
          congr 1
          omega
        · rw [if_neg z]
          by_cases y : j ≤ k ∧ k < j + s
          · rw [if_pos y, if_pos ⟨y.1, by omega⟩]
          · rw [if_neg y, if_neg (by omega)]
      rw [e, show J (s : Int) + J 1 = J ((s + 1 : Nat) : Int) from (J_add _ _).symm]
      exact gm_copiesLoop ha hb hi hj hla hlb hab n (s + 1) (by omega) (by omega)
    · rw [if_neg (fun z => by have := i_lt.mp z; rw [ts, tc] at this; omega), show s = cnt by omega]
theorem gm_copies {S : shp} {v : vl} {a b la lb i j cnt N : Nat} (hN : 100000 ≤ N) (ha : kin S a = some (1, la)) (hb : kin S b = some (1, lb)) (hi : i + cnt ≤ la) (hj : j + cnt ≤ lb) (hla : la < 100000) (hlb : lb < 100000) (hab : a ≠ b ∨ j ≤ i) :
    F_gm_copies N a (J i) b (J j) (J cnt) S v = some (wr v b (cpR (rw v a) (rw v b) i j cnt)) := by
  have e : v = wr v b (cpR (rw v a) (rw v b) i j 0) := by
    have : cpR (rw v a) (rw v b) i j 0 = rw v b := by
      funext k
      unfold cpR
      rw [if_neg (by omega)]
    rw [this, wr_self]
  have := gm_copiesLoop (N := N) (v := v) ha hb hi hj hla hlb hab N 0 (Nat.zero_le _) (by omega)
  unfold F_gm_copies
  rw [← e] at this
  exact this
theorem gm_thinks {S : shp} {v : vl} {m N : Nat} (hN : 100000 ≤ N) (hl : mdL S m) : F_gm_thinks N m S v = some (wr v (m + 3) (cpR (rw v (m + 1)) (rw v (m + 3)) 0 0 199)) := by
  obtain ⟨l0, l1, l2, l3, ⟨l4, l5⟩, l6⟩ := hl
  unfold F_gm_thinks
  rw [grd_true _ l0, l1]
  simp only [Option.bind_some]
  rw [l4]
  simp only [Option.bind_some]
  have := gm_copies (N := N) (v := v) (i := 0) (j := 0) (cnt := 199) hN l2 l5 (by decide) (by decide) (by decide) (by decide) (Or.inr (Nat.le_refl _))
  rw [show J 0 = J ((0 : Nat) : Int) from rfl, show J 199 = J ((199 : Nat) : Int) from rfl, this]
  rfl
theorem gm_back {S : shp} {v : vl} {m N : Nat} {x : Int32} (hN : 100000 ≤ N) (hl : mdL S m) : F_gm_back N m x S v = some (x, wr v (m + 1) (cpR (rw v (m + 3)) (rw v (m + 1)) 0 0 199)) := by
  obtain ⟨l0, l1, l2, l3, ⟨l4, l5⟩, l6⟩ := hl
  unfold F_gm_back
  rw [grd_true _ l0, l4]
  simp only [Option.bind_some]
  rw [l1]
  simp only [Option.bind_some]
  have := gm_copies (N := N) (v := v) (i := 0) (j := 0) (cnt := 199) hN l5 l2 (by decide) (by decide) (by decide) (by decide) (Or.inr (Nat.le_refl _))
  rw [show J 0 = J ((0 : Nat) : Int) from rfl, show J 199 = J ((199 : Nat) : Int) from rfl, this]
  rfl
theorem cpR_lt {f g : Nat → Int32} {k : Nat} (h : k < 199) : cpR f g 0 0 199 k = f k := by
  unfold cpR
  rw [if_pos (by omega), Nat.zero_add, Nat.sub_zero]
/-- what the model's row holds of a state -/
def hX (h : Nat → Int) : Nat → Int := fun k => match k with
  | 5 => h 1
  | 6 => h 2
  | 7 => h 3
  | 21 => h 4
  | _ => h 5
def rowM (R : Nat → Int32) (h c g t p : Nat → Int) (M : Nat → Nat → Int) : Prop := (∀ k, k < 23 → R k = J (mk (hX h) (h 0) c g k)) ∧ (∀ i : Nat, (i : Int) < g 8 → R (23 + 2 * i) = J (t i) ∧ R (24 + 2 * i) = J (p i)) ∧ ∀ i : Nat, (i : Int) < h 5 → ∀ w : Nat, w < 8 → R (39 + 8 * i + w) = J (mN (M i) w)
theorem rowM_ag {R R' : Nat → Int32} {h c g t p : Nat → Int} {M : Nat → Nat → Int} (hR : rowM R h c g t p M) (h8 : g 8 ≤ 8) (h5 : h 5 ≤ 20) (he : ∀ k, k < 199 → R' k = R k) : rowM R' h c g t p M := by
  obtain ⟨a, b, d⟩ := hR
  refine ⟨fun k hk => ?_, fun i hi => ?_, fun i hi w hw => ?_⟩
  · rw [he k (by omega)]; exact a k hk
  · rw [he _ (by omega), he _ (by omega)]; exact b i hi
  · rw [he _ (by omega)]; exact d i hi w hw
/-- all that holds of a state -/
def stV (h c g t p : Nat → Int) (M : Nat → Nat → Int) : Prop := hV h ∧ ckV c ∧ sgV t p g ∧ (∃ u, sgJ u t p g ∧ 0 ≤ u ∧ u ≤ h 0) ∧ h 0 < c 4 ∧ ∀ i : Nat, (i : Int) < h 5 → msV (M i)
theorem rowM_X {R : Nat → Int32} {h c g t p : Nat → Int} {M : Nat → Nat → Int} (hR : rowM R h c g t p M) (hV : stV h c g t p M) :
    ∃ X, R = iz (mk X (h 0) c g) ∧ X 5 = h 1 ∧ X 6 = h 2 ∧ X 7 = h 3 ∧ (∀ i : Nat, (i : Int) < g 8 → t i = mt X i ∧ p i = mp X i) ∧ mdI X (h 0) c g ∧ (∀ k, X k = (R k).toInt) := by
  obtain ⟨⟨v0, v1, v2, v3, v5⟩, ⟨c1, c2, c3⟩, hs, -, -, -⟩ := hV
  obtain ⟨⟨u, hJ, q0, q1⟩, s6, s7⟩ := id hs
  obtain ⟨a, b, d⟩ := hR
  have hag : ∀ i : Nat, (i : Int) < g 8 → t i = mt (zi R) i ∧ p i = mp (zi R) i := fun i hi => by
    obtain ⟨e1, e2⟩ := b i hi
    obtain ⟨d1, d2, -⟩ := hJ.2.2.1 i hi
    constructor
    · show t i = (R (23 + 2 * i)).toInt
      rw [e1, J_toInt (by omega) (by omega)]
    · show p i = (R (24 + 2 * i)).toInt
      rw [e2, J_toInt (by omega) (by omega)]
  refine ⟨zi R, ?_, ?_, ?_, ?_, hag, ⟨⟨u, sgJ_congr hJ hag, q0, q1⟩, c1, c2, rB_zi R, ⟨v0.1, Int.le_trans v0.2 (by decide)⟩, c3, s6, s7⟩, fun _ => rfl⟩
  · funext k
    match k with
    | 0 => exact a 0 (by decide)
    | 1 => exact a 1 (by decide)
    | 2 => exact a 2 (by decide)
    | 3 => exact a 3 (by decide)
    | 4 => exact a 4 (by decide)
    | 5 => exact (J_of _).symm
    | 6 => exact (J_of _).symm
    | 7 => exact (J_of _).symm
    | 8 => exact a 8 (by decide)
    | 9 => exact a 9 (by decide)
    | 10 => exact a 10 (by decide)
    | 11 => exact a 11 (by decide)
    | 12 => exact a 12 (by decide)
    | 13 => exact a 13 (by decide)
    | 14 => exact a 14 (by decide)
    | 15 => exact a 15 (by decide)
    | 16 => exact a 16 (by decide)
    | 17 => exact a 17 (by decide)
    | 18 => exact a 18 (by decide)
    | 19 => exact a 19 (by decide)
    | 20 => exact a 20 (by decide)
    | j + 21 => exact (J_of _).symm
  · show (R 5).toInt = h 1
    rw [a 5 (by decide)]
    exact J_toInt (by show _ ≤ h 1; omega) (by show h 1 < _; omega)
  · show (R 6).toInt = h 2
    rw [a 6 (by decide)]
    exact J_toInt (by show _ ≤ h 2; omega) (by show h 2 < _; omega)
  · show (R 7).toInt = h 3
    rw [a 7 (by decide)]
    exact J_toInt (by show _ ≤ h 3; omega) (by show h 3 < _; omega)
theorem rowM_mk {R : Nat → Int32} {X h c g t p c' g' : Nat → Int} {M : Nat → Nat → Int} {T' : Int} (hR : rowM R h c g t p M) (hX1 : ∀ k, X k = (R k).toInt) (h8 : g' 8 = g 8) : rowM (iz (mk X T' c' g')) (fun k => if k = 0 then T' else h k) c' g' t p M := by
  obtain ⟨a, b, d⟩ := hR
  have x : ∀ k, J (X k) = R k := fun k => by rw [hX1]; exact J_of _
  refine ⟨fun k hk => ?_, fun i hi => ?_, fun i hi w hw => ?_⟩
  · match k with
    | 0 => rfl
    | 1 => rfl
    | 2 => rfl
    | 3 => rfl
    | 4 => rfl
    | 5 => exact (x 5).trans (a 5 (by decide))
    | 6 => exact (x 6).trans (a 6 (by decide))
    | 7 => exact (x 7).trans (a 7 (by decide))
    | 8 => rfl
    | 9 => rfl
    | 10 => rfl
    | 11 => rfl
    | 12 => rfl
    | 13 => rfl
    | 14 => rfl
    | 15 => rfl
    | 16 => rfl
    | 17 => rfl
    | 18 => rfl
    | 19 => rfl
    | 20 => rfl
    | 21 => exact (x 21).trans (a 21 (by decide))
    | 22 => exact (x 22).trans (a 22 (by decide))
    | j + 23 => omega
  · rw [h8] at hi
    obtain ⟨e1, e2⟩ := b i hi
    constructor
    · rw [← e1, ← x]
      show J (mk X T' c' g' (23 + 2 * i)) = _
      rw [show 23 + 2 * i = (2 + 2 * i) + 21 by omega]
      rfl
    · rw [← e2, ← x]
      show J (mk X T' c' g' (24 + 2 * i)) = _
      rw [show 24 + 2 * i = (3 + 2 * i) + 21 by omega]
      rfl
  · have e1 := d i hi w hw
    rw [← e1, ← x]
    show J (mk X T' c' g' (39 + 8 * i + w)) = _
    rw [show 39 + 8 * i + w = (18 + 8 * i + w) + 21 by omega]
    rfl
end MROW
