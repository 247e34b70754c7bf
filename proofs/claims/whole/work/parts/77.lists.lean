/-! Spread, sharpest, median. -/
section LISTS
variable {S : shp} {v : vl} {a b m N q : Nat} {h c g t p X : Nat → Int} {M : Nat → Nat → Int} {sv : Option sta} {ps : List sta} {re ca ch : Int}
/-- the kept ones on either side -/
def kpS (S : shp) (v : vl) (b : Nat) (n : Nat) (M : Nat → Nat → Int) : Prop := stL S b ∧ rw v b 5 = J (n : Int) ∧ n ≤ 20 ∧ msR S v (b + 5) n M ∧ ∀ i : Nat, i < n → msV (M i)
def kpR (v : vl) (m : Nat) (n : Nat) (M : Nat → Nat → Int) : Prop := rw v (m + 1) 22 = J (n : Int) ∧ n ≤ 20 ∧ (∀ i : Nat, i < n → ∀ w : Int, 0 ≤ w ∧ w ≤ 7 → rw v (m + 1) (39 + 8 * (i : Int) + w).toNat = J (mN (M i) w)) ∧ ∀ i : Nat, i < n → msV (M i)
theorem kpS_R (hR : cR S v a (h, c, g, t, p, M) sv ps re ca ch q) : kpS S v (a + 11) (h 5).toNat M := by
  obtain ⟨k0, g5, n0, r6, n1, r7, n2, hh, hc, hg⟩ := cR_now hR
  have hV := cR_V hR
  have hv5 := hV.1.2.2.2.2
  have e : (((h 5).toNat : Nat) : Int) = h 5 := by omega
  exact ⟨hR.2.1.1.1.1, by rw [hh 5 (by decide), e], by omega, by rw [e]; exact hR.2.1.1.2, fun i hi => hV.2.2.2.2.2 i (by omega)⟩
theorem kpR_R {x : Int} (h1 : rowM (rw v (m + 1)) h c g t p M) (hV : stV h c g t p M) : kpR (th v m x) m (h 5).toNat M := by
  have hv5 := hV.1.2.2.2.2
  have e : (((h 5).toNat : Nat) : Int) = h 5 := by omega
  exact ⟨by rw [rw_th (by omega), h1.1 22 (by decide), e]; rfl, by omega, fun i hi w hw => by
    rw [rw_th (by omega)]
    exact rowM_m h1 (i := (i : Int)) (by omega) hw, fun i hi => hV.2.2.2.2.2 i (by omega)⟩
theorem st_valueAt {n i : Nat} (hK : kpS S v b n M) (hi : i < n) : F_st_valueAt b (J (i : Int)) S v = some (J (M i 4)) := by
  obtain ⟨hl, h5, hn, hm, -⟩ := hK
  obtain ⟨r, r1, r2, r3⟩ := st_at_in (h := fun _ => (n : Int)) hl h5 (by omega) hm (show (i : Int) < (n : Int) by omega)
  unfold F_st_valueAt
  rw [grd_true _ hl.1, r1]
  simp only [Option.bind_some, oc2]
  rw [grd_true _ r2, gi_rw, r3 4 (by decide)]
theorem st_countAt {n i : Nat} (hK : kpS S v b n M) (hi : i < n) : F_st_countAt b (J (i : Int)) S v = some (J (M i 3)) := by
  obtain ⟨hl, h5, hn, hm, -⟩ := hK
  obtain ⟨r, r1, r2, r3⟩ := st_at_in (h := fun _ => (n : Int)) hl h5 (by omega) hm (show (i : Int) < (n : Int) by omega)
  unfold F_st_countAt
  rw [grd_true _ hl.1, r1]
  simp only [Option.bind_some, oc2]
  rw [grd_true _ r2, gi_rw, r3 3 (by decide)]
theorem gm_ofK {n i : Nat} {w : Int} (hl : mdL S m) (hK : kpR v m n M) (hi : i < n) (hw : 0 ≤ w ∧ w ≤ 7) : F_gm_of m (J (i : Int)) (J w) S v = some (J (mN (M i) w)) :=
  gm_of hl (hK.2.2.1 i hi w hw) (by have := hK.2.1; omega) hw
theorem M4_B {n i : Nat} (hV : ∀ i : Nat, i < n → msV (M i)) (hi : i < n) : 0 ≤ M i 4 ∧ M i 4 ≤ 2000000000 := (hV i hi).2.2.2.2.1
theorem M3_B {n i : Nat} (hV : ∀ i : Nat, i < n → msV (M i)) (hi : i < n) : 0 ≤ M i 3 ∧ M i 3 ≤ 2100000 := (hV i hi).2.2.2.1
-- spread
def spZ (w : Nat → Int) : Nat → Nat → Int → Int → Int
  | 0, _, l, k => k - l
  | f + 1, i, l, k => spZ w f (i + 1) (minZ l (w i)) (maxZ k (w i))
def m4 (M : Nat → Nat → Int) (i : Nat) : Int := M i 4
theorem mN4 {z : Nat → Int} : mN z 4 = z 4 := rfl
theorem mN5 {z : Nat → Int} : mN z 5 = dgZ (z 3) := rfl
theorem gc_spreadLoop {n : Nat} (ka : kin S a = some (0, 5)) (ga : gr S a 5 = some b) (hK : kpS S v b n M) : ∀ (F i : Nat) (l k : Int), i ≤ n → n - i < F → 0 ≤ l ∧ l ≤ 2000000000 → 0 ≤ k ∧ k ≤ 2000000000 →
    K_gc_spread_13 N F S v a (J l) (J k) (J (i : Int)) = some (J (spZ (m4 M) (n - i) i l k))
  | 0, i, l, k, _, h, _, _ => absurd h (Nat.not_lt_zero _)
  | F + 1, i, l, k, hi, hF, hl, hk => by
    have hn := hK.2.2.1
    show Y_gc_spread_13 N (K_gc_spread_13 N F S v) S v a (J l) (J k) (J (i : Int)) = _
    unfold Y_gc_spread_13
    rw [grd_true _ ka, ga]
    simp only [Option.bind_some]
    rw [grd_true _ hK.1.1, gi_rw, hK.2.1]
    by_cases q : i < n
    · have hB := M4_B hK.2.2.2.2 q
      have b1 := minZ_B (x := l) (y := M i 4)
      have b2 := maxZ_B (x := k) (y := M i 4)
      rw [if_pos ((J_lt (by omega) (by omega)).mpr (by omega)), st_valueAt hK q]
      simp only [Option.bind_some]
      rw [ma_minJ (by omega) (by omega)]
      simp only [Option.bind_some]
      rw [ma_maxJ (by omega) (by omega)]
      simp only [Option.bind_some]
      rw [J_s, show n - i = (n - (i + 1)) + 1 by omega]
      exact gc_spreadLoop ka ga hK F (i + 1) _ _ (by omega) (by omega) (by omega) (by omega)
    · rw [if_neg (fun z => by have := (J_lt (by omega) (by omega)).mp z; omega), show n - i = 0 by omega, ← J_sub]
      rfl
def sprZ (n : Nat) (M : Nat → Nat → Int) : Int := if n = 0 then 0 else spZ (m4 M) (n - 1) 1 (M 0 4) (M 0 4)
theorem gc_spread (hN : 100 ≤ N) (hR : cR S v a (h, c, g, t, p, M) sv ps re ca ch q) : F_gc_spread N a S v = some (J (sprZ (h 5).toNat M)) := by
  obtain ⟨k0, g5, n0, -⟩ := cR_now hR
  have hK := kpS_R hR
  have hn := hK.2.2.1
  unfold F_gc_spread sprZ
  rw [grd_true _ k0, g5]
  simp only [Option.bind_some]
  rw [grd_true _ n0]
  by_cases q : (h 5).toNat = 0
  · have e0 : F_st_valueAt (a + 11) (J 0) S v = some (J 0) := by
      unfold F_st_valueAt
      rw [grd_true _ n0, st_at_out (h := fun _ => (((h 5).toNat : Nat) : Int)) hK.1 hK.2.1 (by omega) (by decide) (Or.inr (by omega))]
      rfl
    rw [e0, if_pos q]
    simp only [Option.bind_some]
    obtain ⟨F, rfl⟩ : ∃ F, N = F + 1 := ⟨N - 1, by omega⟩
    show Y_gc_spread_13 (F + 1) (K_gc_spread_13 (F + 1) F S v) S v a (J 0) (J 0) (J 1) = _
    unfold Y_gc_spread_13
    rw [grd_true _ k0, g5]
    simp only [Option.bind_some]
    rw [grd_true _ n0, gi_rw, hK.2.1, q, if_neg (by decide)]
    rfl
  · have hB := M4_B hK.2.2.2.2 (show 0 < (h 5).toNat by omega)
    have e0 := st_valueAt hK (show 0 < (h 5).toNat by omega)
    rw [show J 0 = J ((0 : Nat) : Int) from rfl, e0, if_neg q]
    simp only [Option.bind_some]
    exact gc_spreadLoop k0 g5 hK N 1 _ _ (by omega) (by omega) hB hB
theorem gm_spreadLoop {n : Nat} (hl : mdL S m) (hK : kpR v m n M) : ∀ (F i : Nat) (l k : Int), i ≤ n → n - i < F → 0 ≤ l ∧ l ≤ 2000000000 → 0 ≤ k ∧ k ≤ 2000000000 →
    K_gm_spread_28 N F S v m (J l) (J k) (J (i : Int)) = some (J (spZ (m4 M) (n - i) i l k), v)
  | 0, i, l, k, _, h, _, _ => absurd h (Nat.not_lt_zero _)
  | F + 1, i, l, k, hi, hF, hl1, hk => by
    have hn := hK.2.1
    show Y_gm_spread_28 N (K_gm_spread_28 N F S) S v m (J l) (J k) (J (i : Int)) = _
    unfold Y_gm_spread_28
    rw [grd_true _ hl.1, hl.2.1]
    simp only [Option.bind_some]
    rw [grd_true _ hl.2.2.1, gi_rw, hK.1]
    by_cases q : i < n
    · have hB := M4_B hK.2.2.2 q
      have b1 := minZ_B (x := l) (y := M i 4)
      have b2 := maxZ_B (x := k) (y := M i 4)
      rw [if_pos ((J_lt (by omega) (by omega)).mpr (by omega)), gm_ofK hl hK q (by decide), mN4]
      simp only [Option.bind_some]
      rw [ma_minJ (by omega) (by omega)]
      simp only [Option.bind_some]
      rw [ma_maxJ (by omega) (by omega)]
      simp only [Option.bind_some]
      rw [J_s, show n - i = (n - (i + 1)) + 1 by omega]
      exact gm_spreadLoop hl hK F (i + 1) _ _ (by omega) (by omega) (by omega) (by omega)
    · rw [if_neg (fun z => by have := (J_lt (by omega) (by omega)).mp z; omega), show n - i = 0 by omega, ← J_sub]
      rfl
theorem gm_spread (hN : 100 ≤ N) (hR : dR S v m (h, c, g, t, p, M) sv ps re ca ch) (hV : stV h c g t p M) : F_gm_spread N m S v = some (J (sprZ (h 5).toNat M), th v m 0) := by
  obtain ⟨hl, h1, -⟩ := hR
  have hK := kpR_R (x := 0) (h := h) (c := c) (g := g) (t := t) (p := p) (M := M) h1 hV
  have hn := hK.2.1
  unfold F_gm_spread sprZ
  rw [grd_true _ hl.1]
  simp only [lt_def, si_th]
  rw [hl.2.1]
  simp only [Option.bind_some]
  rw [grd_true _ hl.2.2.1, gi_rw, hK.1]
  by_cases q : (h 5).toNat = 0
  · rw [q, if_pos rfl, if_pos (show J ((0 : Nat) : Int) = J 0 from rfl)]
  · have hB := M4_B hK.2.2.2 (show 0 < (h 5).toNat by omega)
    have e0 := gm_ofK (w := 4) hl hK (show 0 < (h 5).toNat by omega) (by decide)
    rw [if_neg (fun z => by have := (J_eq (by omega) (by decide)).mp z; omega), if_neg q, show F_gm_of m (J 0) (J 4) S (th v m 0) = some (J (mN (M 0) 4)) from e0, mN4]
    simp only [Option.bind_some]
    exact gm_spreadLoop hl hK N 1 _ _ (by omega) (by omega) hB hB
-- sharpest
def shZ (w : Nat → Int) : Nat → Nat → Int → Int → Int
  | 0, _, b, _ => b
  | f + 1, i, b, d => if dgZ (w i) < d then shZ w f (i + 1) b d else shZ w f (i + 1) i (dgZ (w i))
def m3 (M : Nat → Nat → Int) (i : Nat) : Int := M i 3
theorem shZ_s {w : Nat → Int} {f i : Nat} {b d : Int} : shZ w (f + 1) i b d = if dgZ (w i) < d then shZ w f (i + 1) b d else shZ w f (i + 1) i (dgZ (w i)) := rfl
theorem gc_sharpLoop {n : Nat} (hN : 100 ≤ N) (ka : kin S a = some (0, 5)) (ga : gr S a 5 = some b) (hK : kpS S v b n M) : ∀ (F i : Nat) (x d : Int), i ≤ n → n - i < F → 0 ≤ d ∧ d ≤ 10 →
    K_gc_sharpest_6 N F S v a (J x) (J d) (J (i : Int)) = some (J (shZ (m3 M) (n - i) i x d))
  | 0, i, x, d, _, h, _ => absurd h (Nat.not_lt_zero _)
  | F + 1, i, x, d, hi, hF, hd => by
    have hn := hK.2.2.1
    show Y_gc_sharpest_6 N (K_gc_sharpest_6 N F S v) S v a (J x) (J d) (J (i : Int)) = _
    unfold Y_gc_sharpest_6
    rw [grd_true _ ka, ga]
    simp only [Option.bind_some]
    rw [grd_true _ hK.1.1, gi_rw, hK.2.1]
    by_cases q : i < n
    · have hB := M3_B hK.2.2.2.2 q
      have hD := dgZ_B (M i 3)
      have e3 : m3 M i = M i 3 := rfl
      rw [if_pos ((J_lt (by omega) (by omega)).mpr (by omega)), st_countAt hK q]
      simp only [Option.bind_some]
      rw [gc_digitsOf hN (by omega)]
      simp only [Option.bind_some]
      rw [J_s, show n - i = (n - (i + 1)) + 1 by omega, shZ_s, e3]
      by_cases w : dgZ (M i 3) < d
      · rw [if_pos ((J_lt (by omega) (by omega)).mpr w), if_pos w]
        exact gc_sharpLoop hN ka ga hK F (i + 1) _ _ (by omega) (by omega) hd
      · rw [if_neg (fun z => w ((J_lt (by omega) (by omega)).mp z)), if_neg w]
        exact gc_sharpLoop hN ka ga hK F (i + 1) _ _ (by omega) (by omega) hD
    · rw [if_neg (fun z => by have := (J_lt (by omega) (by omega)).mp z; omega), show n - i = 0 by omega]
      rfl
theorem gc_sharpest (hN : 100 ≤ N) (hR : cR S v a (h, c, g, t, p, M) sv ps re ca ch q) : F_gc_sharpest N a S v = some (J (shZ (m3 M) (h 5).toNat 0 (-1) 0)) := by
  obtain ⟨k0, g5, n0, -⟩ := cR_now hR
  have hK := kpS_R hR
  have hn := hK.2.2.1
  exact gc_sharpLoop hN k0 g5 hK N 0 (-1) 0 (by omega) (by omega) (by decide)
theorem gm_sharpLoop {n : Nat} (hl : mdL S m) (hK : kpR v m n M) : ∀ (F i : Nat) (x d : Int), i ≤ n → n - i < F → (x = -1 ∧ d = 0) ∨ (∃ j : Nat, x = j ∧ j < n ∧ d = dgZ (M j 3)) →
    K_gm_sharpest_9 N F S v m (J x) (J (i : Int)) = some (J (shZ (m3 M) (n - i) i x d), v)
  | 0, i, x, d, _, h, _ => absurd h (Nat.not_lt_zero _)
  | F + 1, i, x, d, hi, hF, hx => by
    have hn := hK.2.1
    show Y_gm_sharpest_9 N (K_gm_sharpest_9 N F S) S v m (J x) (J (i : Int)) = _
    unfold Y_gm_sharpest_9
    rw [grd_true _ hl.1, hl.2.1]
    simp only [Option.bind_some]
    rw [grd_true _ hl.2.2.1, gi_rw, hK.1]
    by_cases q : i < n
    · have hD := dgZ_B (M i 3)
      have e3 : m3 M i = M i 3 := rfl
      have ih := gm_sharpLoop hl hK F (i + 1)
      have hd : n - i = (n - (i + 1)) + 1 := by clear hx; omega
      have hlt : J (i : Int) < J (n : Int) := by clear hx; exact (J_lt (by omega) (by omega)).mpr (by omega)
      rw [if_pos hlt, J_s, hd, shZ_s, e3]
      rcases hx with ⟨x1, d0⟩ | ⟨j, xj, jn, dj⟩
      · rw [if_pos (by rw [x1]), if_neg (show ¬ dgZ (M i 3) < d by omega)]
        exact ih _ _ (by omega) (by omega) (Or.inr ⟨i, rfl, q, rfl⟩)
      · have hD2 := dgZ_B (M j 3)
        rw [if_neg (show ¬ J x = J (-1) from fun z => by have := (J_eq (by omega) (by decide)).mp z; omega), gm_ofK hl hK q (by decide), xj]
        simp only [Option.bind_some]
        rw [gm_ofK hl hK jn (by decide), mN5, mN5]
        simp only [Option.bind_some]
        by_cases w : dgZ (M i 3) < d
        · rw [if_pos ((J_lt (by omega) (by omega)).mpr (show dgZ (M i 3) < dgZ (M j 3) by omega)), if_pos w]
          exact ih _ _ (by omega) (by omega) (Or.inr ⟨j, rfl, jn, dj⟩)
        · rw [if_neg (fun z => w (by have := (J_lt (by omega) (by omega)).mp z; omega)), if_neg w]
          exact ih _ _ (by omega) (by omega) (Or.inr ⟨i, rfl, q, rfl⟩)
    · clear hx
      rw [if_neg (fun z => by have := (J_lt (by omega) (by omega)).mp z; omega), show n - i = 0 by omega]
      rfl
theorem gm_sharpest (hN : 100 ≤ N) (hR : dR S v m (h, c, g, t, p, M) sv ps re ca ch) (hV : stV h c g t p M) : F_gm_sharpest N m S v = some (J (shZ (m3 M) (h 5).toNat 0 (-1) 0), th v m 0) := by
  obtain ⟨hl, h1, -⟩ := hR
  have hK := kpR_R (x := 0) (h := h) (c := c) (g := g) (t := t) (p := p) (M := M) h1 hV
  have hn := hK.2.1
  unfold F_gm_sharpest
  rw [grd_true _ hl.1]
  simp only [lt_def, si_th]
  exact gm_sharpLoop hl hK N 0 (-1) 0 (by omega) (by omega) (Or.inl ⟨rfl, rfl⟩)
-- median
def blZ (w : Nat → Int) : Nat → Int → Int
  | 0, _ => 0
  | n + 1, x => blZ w n x + (if w n < x then 1 else 0)
def eqZ (w : Nat → Int) : Nat → Int → Int
  | 0, _ => 0
  | n + 1, x => eqZ w n x + (if w n = x then 1 else 0)
def raZ (w : Nat → Int) (i : Nat) : Nat → Int
  | 0 => 0
  | n + 1 => raZ w i n + (if w n < w i then 1 else if w n = w i then (if n < i then 1 else 0) else 0)
theorem blZ_s {w : Nat → Int} {n : Nat} {x : Int} : blZ w (n + 1) x = blZ w n x + (if w n < x then 1 else 0) := rfl
theorem eqZ_s {w : Nat → Int} {n : Nat} {x : Int} : eqZ w (n + 1) x = eqZ w n x + (if w n = x then 1 else 0) := rfl
theorem raZ_s {w : Nat → Int} {i n : Nat} : raZ w i (n + 1) = raZ w i n + (if w n < w i then 1 else if w n = w i then (if n < i then 1 else 0) else 0) := rfl
theorem blZ_1 {w : Nat → Int} {x : Int} : ∀ n : Nat, blZ w n (x + 1) = blZ w n x + eqZ w n x
  | 0 => rfl
  | n + 1 => by
    rw [blZ_s, blZ_s, eqZ_s, blZ_1 n]
    split <;> split <;> split <;> omega
theorem blZ_le {w : Nat → Int} {x y : Int} (h : x ≤ y) : ∀ n : Nat, blZ w n x ≤ blZ w n y
  | 0 => Int.le_refl _
  | n + 1 => by
    have := blZ_le (w := w) h n
    rw [blZ_s, blZ_s]
    split <;> split <;> omega
theorem blZ_B {w : Nat → Int} {x : Int} : ∀ n : Nat, 0 ≤ blZ w n x ∧ blZ w n x ≤ n
  | 0 => ⟨Int.le_refl _, Int.le_refl _⟩
  | n + 1 => by
    have := blZ_B (w := w) (x := x) n
    rw [blZ_s]
    split <;> omega
theorem raZ_e {w : Nat → Int} {i : Nat} : ∀ n : Nat, raZ w i n = blZ w n (w i) + eqZ w (if n ≤ i then n else i) (w i)
  | 0 => rfl
  | n + 1 => by
    rw [raZ_s, blZ_s, raZ_e n]
    by_cases q : n + 1 ≤ i
    · rw [if_pos q, if_pos (show n ≤ i by omega), eqZ_s, if_pos (show n < i by omega)]
      split
      · rw [if_neg (by omega)]; omega
      · omega
    · rw [if_neg q, if_neg (show ¬ n < i by omega)]
      have e : (if n ≤ i then n else i) = i := by split <;> omega
      rw [e]
      split
      · omega
      · split <;> omega
theorem raZ_B {w : Nat → Int} {i : Nat} : ∀ n : Nat, 0 ≤ raZ w i n ∧ raZ w i n ≤ n
  | 0 => ⟨Int.le_refl _, Int.le_refl _⟩
  | n + 1 => by
    have := raZ_B (w := w) (i := i) n
    rw [raZ_s]
    split
    · omega
    · split
      · split <;> omega
      · omega
theorem eqZ_ivt {w : Nat → Int} {x k : Int} (hk : 0 ≤ k) : ∀ n : Nat, k < eqZ w n x → ∃ i, i < n ∧ w i = x ∧ eqZ w i x = k
  | 0, h => by
    have : eqZ w 0 x = 0 := rfl
    omega
  | n + 1, h => by
    by_cases q : k < eqZ w n x
    · obtain ⟨i, i1, i2, i3⟩ := eqZ_ivt hk n q
      exact ⟨i, by omega, i2, i3⟩
    · rw [eqZ_s] at h
      by_cases y : w n = x
      · rw [if_pos y] at h
        exact ⟨n, by omega, y, by omega⟩
      · rw [if_neg y] at h
        omega
theorem eqZ_le {w : Nat → Int} {x : Int} : ∀ (n i : Nat), i < n → w i = x → eqZ w i x < eqZ w n x
  | 0, i, h, _ => absurd h (Nat.not_lt_zero _)
  | n + 1, i, h, e => by
    rw [eqZ_s]
    by_cases q : i = n
    · subst q
      rw [if_pos e]
      omega
    · have := eqZ_le n i (by omega) e
      split <;> omega
/-- first value that is enough -/
def fvZ (w : Nat → Int) (d : Nat → Bool) : Nat → Nat → Int
  | 0, _ => -1
  | f + 1, i => if d i = true then w i else fvZ w d f (i + 1)
theorem fvZ_s {w : Nat → Int} {d : Nat → Bool} {f i : Nat} : fvZ w d (f + 1) i = if d i = true then w i else fvZ w d f (i + 1) := rfl
theorem fvZ_or {w : Nat → Int} {d : Nat → Bool} : ∀ (f i : Nat), (∃ j, i ≤ j ∧ j < i + f ∧ d j = true ∧ fvZ w d f i = w j) ∨ ((∀ j, i ≤ j → j < i + f → ¬ d j = true) ∧ fvZ w d f i = -1)
  | 0, i => Or.inr ⟨fun j h1 h2 => by omega, rfl⟩
  | f + 1, i => by
    rw [fvZ_s]
    by_cases q : d i = true
    · rw [if_pos q]
      exact Or.inl ⟨i, by omega, by omega, q, rfl⟩
    · rw [if_neg q]
      rcases fvZ_or (w := w) (d := d) f (i + 1) with ⟨j, j1, j2, j3, j4⟩ | ⟨j1, j2⟩
      · exact Or.inl ⟨j, by omega, by omega, j3, j4⟩
      · refine Or.inr ⟨fun j h1 h2 => ?_, j2⟩
        by_cases y : j = i
        · rw [y]; exact q
        · exact j1 j (by omega) (by omega)
def dC (w : Nat → Int) (n : Nat) (k : Int) (i : Nat) : Bool := decide (blZ w n (w i) ≤ k ∧ k < blZ w n (w i + 1))
def dM (w : Nat → Int) (n : Nat) (k : Int) (i : Nat) : Bool := decide (raZ w i n = k)
theorem med_eq {w : Nat → Int} {n : Nat} {k : Int} : fvZ w (dC w n k) n 0 = fvZ w (dM w n k) n 0 := by
  have up : ∀ i, i < n → dM w n k i = true → dC w n k i = true := fun i hi e => by
    have e' : raZ w i n = k := of_decide_eq_true e
    have e1 := raZ_e (w := w) (i := i) n
    rw [if_neg (by omega)] at e1
    have e2 := eqZ_le (w := w) n i hi rfl
    have e3 := blZ_1 (w := w) (x := w i) n
    have e4 : 0 ≤ eqZ w i (w i) := by
      have := raZ_e (w := w) (i := i) i
      have b1 := blZ_1 (w := w) (x := w i) i
      have := blZ_le (w := w) (show w i ≤ w i + 1 by omega) i
      omega
    exact decide_eq_true ⟨by omega, by omega⟩
  rcases fvZ_or (w := w) (d := dC w n k) n 0 with ⟨i, i1, i2, i3, i4⟩ | ⟨i1, i2⟩
  · have i3' : blZ w n (w i) ≤ k ∧ k < blZ w n (w i + 1) := of_decide_eq_true i3
    have b1 := blZ_1 (w := w) (x := w i) n
    obtain ⟨j, j1, j2, j3⟩ := eqZ_ivt (w := w) (x := w i) (k := k - blZ w n (w i)) (by omega) n (by omega)
    have ej : dM w n k j = true := by
      have e1 := raZ_e (w := w) (i := j) n
      rw [if_neg (by omega), j2, j3] at e1
      exact decide_eq_true (by omega)
    rcases fvZ_or (w := w) (d := dM w n k) n 0 with ⟨l, l1, l2, l3, l4⟩ | ⟨l1, l2⟩
    · rw [i4, l4]
      have l5 : blZ w n (w l) ≤ k ∧ k < blZ w n (w l + 1) := of_decide_eq_true (up l (by omega) l3)
      by_cases x : w i < w l
      · have := blZ_le (w := w) (show w i + 1 ≤ w l by omega) n
        omega
      · by_cases y : w l < w i
        · have := blZ_le (w := w) (show w l + 1 ≤ w i by omega) n
          omega
        · omega
    · exact absurd ej (l1 j (by omega) (by omega))
  · rcases fvZ_or (w := w) (d := dM w n k) n 0 with ⟨l, l1, l2, l3, l4⟩ | ⟨l1, l2⟩
    · exact absurd (up l (by omega) l3) (i1 l (by omega) (by omega))
    · rw [i2, l2]
theorem st_belowLoop {n : Nat} {x : Int} (hK : kpS S v b n M) (hx : 0 ≤ x ∧ x ≤ 2000000001) : ∀ (F i : Nat), i ≤ n → n - i < F →
    K_st_valuesBelow_4 N F S v b (J x) (J (blZ (m4 M) i x)) (J (i : Int)) = some (J (blZ (m4 M) n x))
  | 0, i, _, h => absurd h (Nat.not_lt_zero _)
  | F + 1, i, hi, hF => by
    have hn := hK.2.2.1
    show Y_st_valuesBelow_4 N (K_st_valuesBelow_4 N F S v) S v b (J x) (J (blZ (m4 M) i x)) (J (i : Int)) = _
    unfold Y_st_valuesBelow_4
    rw [grd_true _ hK.1.1, gi_rw, hK.2.1]
    by_cases q : i < n
    · have hB := M4_B hK.2.2.2.2 q
      have ih := st_belowLoop hK hx F (i + 1) (by omega) (by omega)
      have e4 : m4 M i = M i 4 := rfl
      rw [if_pos ((J_lt (by omega) (by omega)).mpr (by omega)), st_valueAt hK q]
      simp only [Option.bind_some]
      rw [blZ_s, e4] at ih
      by_cases w : M i 4 < x
      · rw [if_pos w] at ih
        rw [if_pos ((J_lt (by omega) (by omega)).mpr w), J_s, ← J_add]
        exact ih
      · rw [if_neg w, Int.add_zero] at ih
        rw [if_neg (fun z => w ((J_lt (by omega) (by omega)).mp z)), J_s]
        exact ih
    · rw [if_neg (fun z => by have := (J_lt (by omega) (by omega)).mp z; omega), show i = n by omega]
theorem st_below {n : Nat} {x : Int} (hN : 100 ≤ N) (hK : kpS S v b n M) (hx : 0 ≤ x ∧ x ≤ 2000000001) : F_st_valuesBelow N b (J x) S v = some (J (blZ (m4 M) n x)) :=
  st_belowLoop hK hx N 0 (by omega) (by have := hK.2.2.1; omega)
theorem gc_medLoop {n : Nat} {k : Int} (hN : 100 ≤ N) (ka : kin S a = some (0, 5)) (ga : gr S a 5 = some b) (hK : kpS S v b n M) (hk : 0 ≤ k ∧ k ≤ 20) : ∀ (F i : Nat), i ≤ n → n - i < F →
    K_gc_median_14 N F S v a (J k) (J (i : Int)) = some (J (fvZ (m4 M) (dC (m4 M) n k) (n - i) i))
  | 0, i, _, h => absurd h (Nat.not_lt_zero _)
  | F + 1, i, hi, hF => by
    have hn := hK.2.2.1
    show Y_gc_median_14 N (K_gc_median_14 N F S v) S v a (J k) (J (i : Int)) = _
    unfold Y_gc_median_14
    rw [grd_true _ ka, ga]
    simp only [Option.bind_some]
    rw [grd_true _ hK.1.1, gi_rw, hK.2.1]
    by_cases q : i < n
    · have hB := M4_B hK.2.2.2.2 q
      have ih := gc_medLoop hN ka ga hK hk F (i + 1) (by omega) (by omega)
      have e4 : m4 M i = M i 4 := rfl
      have B1 := blZ_B (w := m4 M) (x := M i 4) n
      have B2 := blZ_B (w := m4 M) (x := M i 4 + 1) n
      rw [if_pos ((J_lt (by omega) (by omega)).mpr (by omega)), st_valueAt hK q]
      simp only [Option.bind_some]
      rw [st_below hN hK (by omega)]
      simp only [Option.bind_some]
      rw [show n - i = (n - (i + 1)) + 1 by omega, fvZ_s, J_s]
      by_cases w : k < blZ (m4 M) n (M i 4)
      · rw [if_pos ((J_lt (by omega) (by omega)).mpr w), if_neg (show ¬ dC (m4 M) n k i = true from fun z => by have := of_decide_eq_true z; rw [e4] at this; omega)]
        exact ih
      · rw [if_neg (fun z => w ((J_lt (by omega) (by omega)).mp z)), ← J_add, st_below hN hK (by omega)]
        simp only [Option.bind_some]
        by_cases u : k < blZ (m4 M) n (M i 4 + 1)
        · rw [if_pos ((J_lt (by omega) (by omega)).mpr u), if_pos (show dC (m4 M) n k i = true from decide_eq_true (by rw [e4]; omega)), e4]
        · rw [if_neg (fun z => u ((J_lt (by omega) (by omega)).mp z)), if_neg (show ¬ dC (m4 M) n k i = true from fun z => by have := of_decide_eq_true z; rw [e4] at this; omega)]
          exact ih
    · rw [if_neg (fun z => by have := (J_lt (by omega) (by omega)).mp z; omega), show n - i = 0 by omega]
      rfl
def haZ (n : Nat) : Int := ((n : Int) - 1).tdiv 2
theorem J_half {n : Nat} (hn : n ≤ 20) : (J (n : Int) - J 1) / J 2 = J (haZ n) ∧ 0 ≤ haZ n ∧ haZ n ≤ 20 := by
  have tx : (J ((n : Int) - 1)).toInt = (n : Int) - 1 := J_toInt (by omega) (by omega)
  have hB : 0 ≤ haZ n ∧ haZ n ≤ 20 := by
    unfold haZ
    by_cases z : n = 0
    · subst z; decide
    · rw [Int.tdiv_eq_ediv_of_nonneg (by omega)]
      omega
  refine ⟨i_eq.mpr ?_, hB⟩
  rw [← J_sub, i_div (by rw [tJ]; decide), tx, tJ, J_toInt (by omega) (by omega)]
  rfl
theorem gc_median (hN : 100 ≤ N) (hR : cR S v a (h, c, g, t, p, M) sv ps re ca ch q) : F_gc_median N a S v = some (J (fvZ (m4 M) (dC (m4 M) (h 5).toNat (haZ (h 5).toNat)) (h 5).toNat 0)) := by
  obtain ⟨k0, g5, n0, -⟩ := cR_now hR
  have hK := kpS_R hR
  have hn := hK.2.2.1
  obtain ⟨e1, e2⟩ := J_half hn
  unfold F_gc_median
  rw [grd_true _ k0, g5]
  simp only [Option.bind_some]
  rw [grd_true _ n0, gi_rw, hK.2.1, lt_def, e1]
  exact gc_medLoop hN k0 g5 hK e2 N 0 (by omega) (by omega)
theorem gm_aheadLoop {n i0 : Nat} (hl : mdL S m) (hK : kpR v m n M) (h0 : i0 < n) : ∀ (F i : Nat), i ≤ n → n - i < F →
    K_gm_aheadOf_12 N F S v m (J (i0 : Int)) (J (raZ (m4 M) i0 i)) (J (M i0 4)) (J (i : Int)) = some (J (raZ (m4 M) i0 n))
  | 0, i, _, h => absurd h (Nat.not_lt_zero _)
  | F + 1, i, hi, hF => by
    have hn := hK.2.1
    show Y_gm_aheadOf_12 N (K_gm_aheadOf_12 N F S v) S v m (J (i0 : Int)) (J (raZ (m4 M) i0 i)) (J (M i0 4)) (J (i : Int)) = _
    unfold Y_gm_aheadOf_12
    rw [grd_true _ hl.1, hl.2.1]
    simp only [Option.bind_some]
    rw [grd_true _ hl.2.2.1, gi_rw, hK.1]
    by_cases q : i < n
    · have hB := M4_B hK.2.2.2 q
      have hB0 := M4_B hK.2.2.2 h0
      have ih := gm_aheadLoop hl hK h0 F (i + 1) (by omega) (by omega)
      have e4 : m4 M i = M i 4 := rfl
      have e40 : m4 M i0 = M i0 4 := rfl
      rw [if_pos ((J_lt (by omega) (by omega)).mpr (show (i : Int) < (n : Int) by omega)), gm_ofK hl hK q (by decide), mN4]
      simp only [Option.bind_some]
      rw [raZ_s, e4, e40] at ih
      by_cases w : M i 4 < M i0 4
      · rw [if_pos w] at ih
        rw [if_pos ((J_lt (by omega) (by omega)).mpr w), J_s, ← J_add]
        exact ih
      · rw [if_neg w] at ih
        rw [if_neg (fun z => w ((J_lt (by omega) (by omega)).mp z))]
        by_cases u : M i 4 = M i0 4
        · rw [if_pos u] at ih
          rw [if_pos (by rw [u])]
          by_cases y : i < i0
          · rw [if_pos y] at ih
            rw [if_pos ((J_lt (by omega) (by omega)).mpr (show (i : Int) < (i0 : Int) by omega)), J_s, ← J_add]
            exact ih
          · rw [if_neg y] at ih
            rw [if_neg (fun z => y (by have := (J_lt (by omega) (by omega)).mp z; omega)), J_s, ← J_add]
            exact ih
        · rw [if_neg u] at ih
          rw [if_neg (fun z => u ((J_eq (by omega) (by omega)).mp z)), J_s, ← J_add]
          exact ih
    · rw [if_neg (fun z => by have := (J_lt (by omega) (by omega)).mp z; omega), show i = n by omega]
theorem gm_medLoop {n : Nat} {k : Int} (hN : 100 ≤ N) (hl : mdL S m) (hK : kpR v m n M) (hk : k = haZ n) : ∀ (F i : Nat), i ≤ n → n - i < F →
    K_gm_median_7 N F S v m (J (i : Int)) = some (J (fvZ (m4 M) (dM (m4 M) n k) (n - i) i), v)
  | 0, i, _, h => absurd h (Nat.not_lt_zero _)
  | F + 1, i, hi, hF => by
    have hn := hK.2.1
    obtain ⟨e1, e2⟩ := J_half hn
    show Y_gm_median_7 N (K_gm_median_7 N F S) S v m (J (i : Int)) = _
    unfold Y_gm_median_7
    rw [grd_true _ hl.1, hl.2.1]
    simp only [Option.bind_some]
    rw [grd_true _ hl.2.2.1, gi_rw, hK.1]
    by_cases q : i < n
    · have hB := M4_B hK.2.2.2 q
      have ih := gm_medLoop hN hl hK hk F (i + 1) (by omega) (by omega)
      have e4 : m4 M i = M i 4 := rfl
      have B1 := raZ_B (w := m4 M) (i := i) n
      have A : F_gm_aheadOf N m (J (i : Int)) S v = some (J (raZ (m4 M) i n)) := by
        unfold F_gm_aheadOf
        rw [grd_true _ hl.1, gm_ofK hl hK q (by decide), mN4]
        simp only [Option.bind_some]
        exact gm_aheadLoop hl hK q N 0 (by omega) (by omega)
      rw [if_pos ((J_lt (by omega) (by omega)).mpr (show (i : Int) < (n : Int) by omega)), A]
      simp only [Option.bind_some]
      rw [e1, show n - i = (n - (i + 1)) + 1 by omega, fvZ_s, J_s]
      by_cases w : raZ (m4 M) i n = k
      · rw [if_pos (by rw [w, hk]), if_pos (show dM (m4 M) n k i = true from decide_eq_true w), gm_ofK hl hK q (by decide), mN4]
        rfl
      · rw [if_neg (fun z => w (by rw [hk]; exact (J_eq (by omega) (by omega)).mp z)), if_neg (show ¬ dM (m4 M) n k i = true from fun z => w (of_decide_eq_true z))]
        exact ih
    · rw [if_neg (fun z => by have := (J_lt (by omega) (by omega)).mp z; omega), show n - i = 0 by omega]
      rfl
theorem gm_median (hN : 100 ≤ N) (hR : dR S v m (h, c, g, t, p, M) sv ps re ca ch) (hV : stV h c g t p M) : F_gm_median N m S v = some (J (fvZ (m4 M) (dC (m4 M) (h 5).toNat (haZ (h 5).toNat)) (h 5).toNat 0), th v m 0) := by
  obtain ⟨hl, h1, -⟩ := hR
  have hK := kpR_R (x := 0) (h := h) (c := c) (g := g) (t := t) (p := p) (M := M) h1 hV
  have hn := hK.2.1
  unfold F_gm_median
  rw [grd_true _ hl.1]
  simp only [lt_def, si_th]
  rw [med_eq]
  exact gm_medLoop hN hl hK rfl N 0 (by omega) (by omega)
end LISTS
