/-! Times of edges and outputs behind one another. -/
section ETIME
variable {t p : Nat → Int}
theorem sgK_sum {u K : Int} {g : Nat → Int} (hJ : sgJ u t p g) (hu : 0 ≤ u) (hu2 : u ≤ 2100000) (hK : K ≤ 6300002) : sgK t p K g 3 * g 4 + sgK t p K g 5 - sgK t p K g 2 = g 3 * g 4 + g 5 - g 2 := by
  refine (sgK_M hJ hu hu2 hK (fun h => h 3 * g 4 + h 5 - h 2 = g 3 * g 4 + g 5 - g 2 ∧ h 4 = g 4) ⟨rfl, rfl⟩ (fun u h hJ' _ _ hM _ => ?_)).1
  obtain ⟨m1, m4⟩ := hM
  have h5 := hJ'.1.2.2.2.2.2
  unfold ev1
  split
  · exact ⟨m1, m4⟩
  · refine ⟨?_, m4⟩
    show (if h 5 + 1 < h 4 then h 3 else h 3 + 1) * g 4 + (if h 5 + 1 < h 4 then h 5 + 1 else 0) - (h 2 + 1) = _
    split
    · omega
    · rw [Int.add_mul, Int.one_mul]; omega
theorem eT_edges : ∀ (n : Nat) (k u : Int) (g : Nat → Int), sgJ u t p g → 0 ≤ u → 6000003 - keS t g < n → 1 ≤ k → eT t p k g ≠ -1 → sgK t p (3 * eT t p k g + 2) g 2 = g 2 + k
  | 0, k, u, g, _, _, hn, _, h => absurd (eT_0 (by omega)) h
  | n + 1, k, u, g, hJ, hu, hn, hk, h => by
    by_cases q : 6000002 < keS t g
    · exact absurd (eT_0 q) h
    · have hB := (eT_B (k := k) hJ hu).resolve_left h
      obtain ⟨u', k1, k2, k3, k4, k5, k6, -⟩ := ev1_J hJ hu (show keS t g ≤ 6300002 by omega)
      rw [sgK_ev hJ hu (by omega) hB.1]
      have e := eT_1 (k := k) hJ hu (show keS t g ≤ 6000002 by omega)
      by_cases hs : evS t g
      · rw [if_pos hs] at e
        rw [e] at h ⊢
        have := eT_edges n k u' _ k1 (by omega) (by omega) hk h
        rw [this]
        have e2 : ev1 t p g 2 = g 2 := by unfold ev1; rw [if_pos hs]; rfl
        rw [e2]
      · have e2 : ev1 t p g 2 = g 2 + 1 := by unfold ev1; rw [if_neg hs]; rfl
        rw [if_neg hs] at e
        by_cases q1 : k ≤ 1
        · rw [if_pos q1] at e
          have hk3 : keS t g = 3 * g 1 + 2 := by
            have := k6 hs
            unfold keS
            rw [if_neg hs, if_neg (by omega)]
          rw [e, sgK_0 (by omega), e2]
          omega
        · rw [if_neg q1] at e
          rw [e] at h ⊢
          have := eT_edges n (k - 1) u' _ k1 (by omega) (by omega) (by omega) h
          rw [this, e2]
          omega
theorem eT_split : ∀ (n : Nat) (k l u : Int) (g : Nat → Int), sgJ u t p g → 0 ≤ u → 6000003 - keS t g < n → 1 ≤ k → k < l → eT t p k g ≠ -1 → eT t p l g = eT t p (l - k) (sgK t p (3 * eT t p k g + 2) g)
  | 0, k, l, u, g, _, _, hn, _, _, h => absurd (eT_0 (by omega)) h
  | n + 1, k, l, u, g, hJ, hu, hn, hk, hl, h => by
    by_cases q : 6000002 < keS t g
    · exact absurd (eT_0 q) h
    · have hB := (eT_B (k := k) hJ hu).resolve_left h
      obtain ⟨u', k1, k2, k3, k4, k5, k6, -⟩ := ev1_J hJ hu (show keS t g ≤ 6300002 by omega)
      rw [sgK_ev hJ hu (by omega) hB.1]
      have e := eT_1 (k := k) hJ hu (show keS t g ≤ 6000002 by omega)
      have el := eT_1 (k := l) hJ hu (show keS t g ≤ 6000002 by omega)
      by_cases hs : evS t g
      · rw [if_pos hs] at e el
        rw [e] at h ⊢
        rw [el]
        exact eT_split n k l u' _ k1 (by omega) (by omega) hk hl h
      · rw [if_neg hs, if_neg (by omega)] at el
        rw [if_neg hs] at e
        by_cases q1 : k ≤ 1
        · rw [if_pos q1] at e
          have hk3 : keS t g = 3 * g 1 + 2 := by
            have := k6 hs
            unfold keS
            rw [if_neg hs, if_neg (by omega)]
          rw [e, sgK_0 (by omega), el, show k = 1 by omega]
        · rw [if_neg q1] at e
          rw [e] at h ⊢
          rw [el]
          have := eT_split n (k - 1) (l - 1) u' _ k1 (by omega) (by omega) (by omega) (by omega) h
          rw [this, show l - 1 - (k - 1) = l - k by omega]
theorem eT_none : ∀ (n : Nat) (k l u : Int) (g : Nat → Int), sgJ u t p g → 0 ≤ u → 6000003 - keS t g < n → 1 ≤ k → k ≤ l → eT t p k g = -1 → eT t p l g = -1
  | 0, k, l, u, g, _, _, hn, _, _, h => eT_0 (by omega)
  | n + 1, k, l, u, g, hJ, hu, hn, hk, hl, h => by
    by_cases q : 6000002 < keS t g
    · exact eT_0 q
    · obtain ⟨u', k1, k2, k3, k4, k5, k6, -⟩ := ev1_J hJ hu (show keS t g ≤ 6300002 by omega)
      have e := eT_1 (k := k) hJ hu (show keS t g ≤ 6000002 by omega)
      rw [eT_1 (k := l) hJ hu (show keS t g ≤ 6000002 by omega)]
      rw [e] at h
      by_cases hs : evS t g
      · rw [if_pos hs] at h ⊢
        exact eT_none n k l u' _ k1 (by omega) (by omega) hk hl h
      · rw [if_neg hs] at h ⊢
        have := k6 hs
        by_cases q1 : k ≤ 1
        · rw [if_pos q1] at h
          omega
        · rw [if_neg q1] at h
          rw [if_neg (by omega)]
          exact eT_none n (k - 1) (l - 1) u' _ k1 (by omega) (by omega) (by omega) (by omega) h
theorem fuel6 (z : Int) : 6000003 - z < ((6000004 - z).toNat : Int) := by omega
variable {g : Nat → Int} {u : Int}
/-- the signal behind the k-th edge -/
theorem eT_at {k : Int} (hJ : sgJ u t p g) (hu : 0 ≤ u) (hu2 : u ≤ 2100000) (hk : 1 ≤ k) (h : eT t p k g ≠ -1) :
    sgK t p (3 * eT t p k g + 2) g 2 = g 2 + k ∧ sgK t p (3 * eT t p k g + 2) g 3 = g 3 + (g 5 + k) / g 4 ∧ sgK t p (3 * eT t p k g + 2) g 5 = (g 5 + k) % g 4 ∧ sgK t p (3 * eT t p k g + 2) g 4 = g 4 := by
  have hB := (eT_B (k := k) hJ hu).resolve_left h
  have e2 := eT_edges _ k u g hJ hu (fuel6 _) hk h
  have es := sgK_sum (K := 3 * eT t p k g + 2) hJ hu hu2 (by omega)
  obtain ⟨k1, u', k2, -⟩ := sgK_J (K := 3 * eT t p k g + 2) hJ hu hu2 (by omega)
  have e4 := sgK_keep (K := 3 * eT t p k g + 2) hJ hu hu2 (by omega) 4 (Or.inl rfl)
  have h5 := k2.1.2.2.2.2.2
  have hp : 0 < g 4 := by have := hJ.1.2.2.2.2.1; omega
  have key := (Int.ediv_emod_unique (a := g 5 + k) (b := g 4) (r := sgK t p (3 * eT t p k g + 2) g 5) (q := sgK t p (3 * eT t p k g + 2) g 3 - g 3) hp).mpr ⟨by rw [Int.mul_comm (g 4), Int.sub_mul]; omega, h5.1, by omega⟩
  exact ⟨e2, by omega, key.2.symm, e4⟩
/-- the time of the i-th output, from 0 -/
def oN (t p : Nat → Int) (i : Nat) (g : Nat → Int) : Int := eT t p (((i : Int) + 1) * g 4 - g 5) g
theorem oN_0 : oN t p 0 g = oT t p g := by
  unfold oN oT
  rw [show ((0 : Nat) : Int) + 1 = 1 from rfl, Int.one_mul]
theorem oN_k (hJ : sgJ u t p g) (i : Nat) : 1 ≤ ((i : Int) + 1) * g 4 - g 5 ∧ (g 5 + (((i : Int) + 1) * g 4 - g 5)) % g 4 = 0 ∧ (g 5 + (((i : Int) + 1) * g 4 - g 5)) / g 4 = (i : Int) + 1 := by
  have h4 := hJ.1.2.2.2.2
  have e : g 5 + (((i : Int) + 1) * g 4 - g 5) = ((i : Int) + 1) * g 4 := by omega
  have m : g 4 ≤ ((i : Int) + 1) * g 4 := by
    rw [Int.add_mul, Int.one_mul]
    have := Int.mul_nonneg (show (0 : Int) ≤ i by omega) (show 0 ≤ g 4 by omega)
    omega
  rw [e]
  exact ⟨by omega, Int.mul_emod_left _ _, Int.mul_ediv_cancel _ (by omega)⟩
theorem oN_at (hJ : sgJ u t p g) (hu : 0 ≤ u) (hu2 : u ≤ 2100000) {i : Nat} (h : oN t p i g ≠ -1) :
    sgK t p (3 * oN t p i g + 2) g 3 = g 3 + (i + 1) ∧ sgK t p (3 * oN t p i g + 2) g 5 = 0 ∧ sgK t p (3 * oN t p i g + 2) g 4 = g 4 ∧ sgK t p (3 * oN t p i g + 2) g 2 = g 2 + (((i : Int) + 1) * g 4 - g 5) ∧ u < oN t p i g ∧ oN t p i g ≤ 2000000 ∧ keS t g ≤ 3 * oN t p i g + 2 := by
  obtain ⟨k1, k2, k3⟩ := oN_k hJ i
  obtain ⟨e2, e3, e5, e4⟩ := eT_at hJ hu hu2 k1 h
  have hB := (eT_B (k := ((i : Int) + 1) * g 4 - g 5) hJ hu).resolve_left h
  rw [k2] at e5
  rw [k3] at e3
  exact ⟨e3, e5, e4, e2, hB.2.1, hB.2.2, hB.1⟩
theorem oN_next (hJ : sgJ u t p g) (hu : 0 ≤ u) (hu2 : u ≤ 2100000) {i : Nat} (h : oN t p i g ≠ -1) : oT t p (sgK t p (3 * oN t p i g + 2) g) = oN t p (i + 1) g := by
  obtain ⟨k1, k2, k3⟩ := oN_k hJ i
  obtain ⟨e3, e5, e4, -⟩ := oN_at hJ hu hu2 h
  have h4 := hJ.1.2.2.2.2.1
  unfold oT
  rw [e5, e4, Int.sub_zero]
  have hk : (((i + 1 : Nat) : Int) + 1) * g 4 - g 5 = (((i : Int) + 1) * g 4 - g 5) + g 4 := by
    rw [show ((i + 1 : Nat) : Int) + 1 = ((i : Int) + 1) + 1 by omega, Int.add_mul ((i : Int) + 1) 1, Int.one_mul]; omega
  have := eT_split _ (((i : Int) + 1) * g 4 - g 5) ((((i : Int) + 1) * g 4 - g 5) + g 4) u g hJ hu (fuel6 _) k1 (by omega) h
  rw [show (((i : Int) + 1) * g 4 - g 5) + g 4 - (((i : Int) + 1) * g 4 - g 5) = g 4 by omega] at this
  unfold oN
  rw [hk]
  exact this.symm
theorem oN_none (hJ : sgJ u t p g) (hu : 0 ≤ u) {i j : Nat} (hij : i ≤ j) (h : oN t p i g = -1) : oN t p j g = -1 := by
  have h4 := hJ.1.2.2.2.2.1
  refine eT_none _ _ _ u g hJ hu (fuel6 _) (oN_k hJ i).1 ?_ h
  have := Int.mul_le_mul_of_nonneg_right (show (i : Int) + 1 ≤ (j : Int) + 1 by omega) (show 0 ≤ g 4 by omega)
  omega
theorem oN_lt (hJ : sgJ u t p g) (hu : 0 ≤ u) (hu2 : u ≤ 2100000) {i : Nat} (h : oN t p (i + 1) g ≠ -1) : oN t p i g ≠ -1 ∧ oN t p i g < oN t p (i + 1) g := by
  have h0 : oN t p i g ≠ -1 := fun q => h (oN_none hJ hu (by omega) q)
  refine ⟨h0, ?_⟩
  have hn := oN_next hJ hu hu2 h0
  have hb := (oN_at hJ hu hu2 h0).2.2.2.2
  obtain ⟨k1, u', k2, k3, -⟩ := sgK_J (K := 3 * oN t p i g + 2) hJ hu hu2 (by omega)
  rw [← hn] at h ⊢
  have := (eT_B (k := sgK t p (3 * oN t p i g + 2) g 4 - sgK t p (3 * oN t p i g + 2) g 5) k2 (by omega)).resolve_left h
  have e : eT t p (sgK t p (3 * oN t p i g + 2) g 4 - sgK t p (3 * oN t p i g + 2) g 5) (sgK t p (3 * oN t p i g + 2) g) = oT t p (sgK t p (3 * oN t p i g + 2) g) := rfl
  rw [e] at this
  omega
theorem oN_le (hJ : sgJ u t p g) (hu : 0 ≤ u) (hu2 : u ≤ 2100000) {j : Nat} (h : oN t p j g ≠ -1) : ∀ {i : Nat}, i ≤ j → oN t p i g ≠ -1 ∧ oN t p i g ≤ oN t p j g := by
  intro i hij
  induction j with
  | zero => rw [show i = 0 by omega]; exact ⟨h, Int.le_refl _⟩
  | succ j ih =>
    by_cases q : i = j + 1
    · subst q; exact ⟨h, Int.le_refl _⟩
    · obtain ⟨r1, r2⟩ := oN_lt hJ hu hu2 h
      obtain ⟨r3, r4⟩ := ih r1 (by omega)
      exact ⟨r3, by omega⟩
end ETIME
