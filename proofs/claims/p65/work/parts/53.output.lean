/-! The time of the k-th edge from now on; the model's ways to the next output. -/
section OUTPUTS
def eTf (t p : Nat → Int) : Nat → Int → (Nat → Int) → Int
  | 0, _, _ => -1
  | n + 1, k, g => if 6000002 < keS t g then -1 else if evS t g then eTf t p n k (ev1 t p g) else if k ≤ 1 then g 1 else eTf t p n (k - 1) (ev1 t p g)
def eT (t p : Nat → Int) (k : Int) (g : Nat → Int) : Int := eTf t p (6000004 - keS t g).toNat k g
theorem eTf_eq {t p : Nat → Int} : ∀ (n m : Nat) (k u : Int) (g : Nat → Int), sgJ u t p g → 0 ≤ u → 6000003 - keS t g < n → 6000003 - keS t g < m → eTf t p n k g = eTf t p m k g
  | 0, 0, k, u, g, _, _, _, _ => rfl
  | 0, m + 1, k, u, g, _, _, h, _ => by
    show -1 = (if _ then _ else _)
    rw [if_pos (by omega)]
  | n + 1, 0, k, u, g, _, _, _, h => by
    show (if _ then _ else _) = -1
    rw [if_pos (by omega)]
  | n + 1, m + 1, k, u, g, hJ, hu, h1, h2 => by
    show (if _ then _ else _) = (if _ then _ else _)
    by_cases q : 6000002 < keS t g
    · rw [if_pos q, if_pos q]
    · obtain ⟨u', k1, k2, k3, k4, k5, -⟩ := ev1_J hJ hu (show keS t g ≤ 6300002 by omega)
      rw [if_neg q, if_neg q]
      have r := fun k => eTf_eq n m k u' _ k1 (by omega) (by omega) (by omega)
      split
      · exact r k
      · split
        · rfl
        · exact r (k - 1)
theorem eT_0 {t p g : Nat → Int} {k : Int} (h : 6000002 < keS t g) : eT t p k g = -1 := by
  unfold eT
  cases hn : (6000004 - keS t g).toNat with
  | zero => rfl
  | succ n => show (if _ then _ else _) = _; rw [if_pos h]
theorem eT_1 {t p g : Nat → Int} {k u : Int} (hJ : sgJ u t p g) (hu : 0 ≤ u) (h : keS t g ≤ 6000002) : eT t p k g = if evS t g then eT t p k (ev1 t p g) else if k ≤ 1 then g 1 else eT t p (k - 1) (ev1 t p g) := by
  obtain ⟨u', k1, k2, k3, k4, k5, -⟩ := ev1_J hJ hu (show keS t g ≤ 6300002 by omega)
  have e : (6000004 - keS t g).toNat = (6000003 - keS t g).toNat + 1 := by omega
  have r : ∀ k, eTf t p (6000003 - keS t g).toNat k (ev1 t p g) = eT t p k (ev1 t p g) := fun k => eTf_eq _ _ k u' _ k1 (by omega) (by omega) (by omega)
  have h0 : eT t p k g = eTf t p ((6000003 - keS t g).toNat + 1) k g := by unfold eT; rw [e]
  rw [h0, ← r k, ← r (k - 1)]
  show (if _ then _ else _) = _
  rw [if_neg (by omega)]
theorem eT_ge {t p : Nat → Int} : ∀ (n : Nat) (k u : Int) (g : Nat → Int), sgJ u t p g → 0 ≤ u → 6000003 - keS t g < n → eT t p k g = -1 ∨ (keS t g ≤ 3 * eT t p k g + 2 ∧ u < eT t p k g ∧ eT t p k g ≤ 2000000)
  | 0, k, u, g, hJ, hu, hn => Or.inl (eT_0 (by omega))
  | n + 1, k, u, g, hJ, hu, hn => by
    by_cases h : 6000002 < keS t g
    · exact Or.inl (eT_0 h)
    · obtain ⟨u', k1, k2, k3, k4, k5, k6, k7⟩ := ev1_J hJ hu (show keS t g ≤ 6300002 by omega)
      rw [eT_1 hJ hu (by omega)]
      have r := fun k => eT_ge n k u' _ k1 (by omega) (by omega)
      split
      · rcases r k with q | q
        · exact Or.inl q
        · right; omega
      · rename_i hs
        have s6 := k6 hs
        have hk : keS t g = 3 * g 1 + 2 := by
          unfold keS
          rw [if_neg hs, if_neg (by omega)]
        split
        · right; omega
        · rcases r (k - 1) with q | q
          · exact Or.inl q
          · right; omega
theorem eT_B {t p g : Nat → Int} {k u : Int} (hJ : sgJ u t p g) (hu : 0 ≤ u) : eT t p k g = -1 ∨ (keS t g ≤ 3 * eT t p k g + 2 ∧ u < eT t p k g ∧ eT t p k g ≤ 2000000) :=
  eT_ge (6000004 - keS t g).toNat k u g hJ hu (by omega)
theorem evK4 {t g : Nat → Int} (hs : ¬ evS t g) (h : g 5 < g 4) : (J (evK t g) = J 4 ∧ g 4 - g 5 = 1 ∧ evK t g = 4) ∨ (¬ J (evK t g) = J 4 ∧ 1 < g 4 - g 5) := by
  unfold evK
  rw [if_neg hs]
  by_cases q : g 5 + 1 < g 4
  · rw [if_pos q]; exact Or.inr ⟨by decide, by omega⟩
  · rw [if_neg q]; exact Or.inl ⟨rfl, by omega, rfl⟩
theorem evK_s {t g : Nat → Int} (hs : evS t g) : ¬ J (evK t g) = J 4 := by
  unfold evK
  rw [if_pos hs]
  decide
/-- the time of the next output -/
def oT (t p g : Nat → Int) : Int := eT t p (g 4 - g 5) g
theorem oT_ev {t p g : Nat → Int} {u : Int} (hJ : sgJ u t p g) (hu : 0 ≤ u) (h : keS t g ≤ 6000002) (h4 : ¬ J (evK t g) = J 4) : oT t p g = oT t p (ev1 t p g) := by
  unfold oT
  rw [eT_1 hJ hu h]
  by_cases hs : evS t g
  · have e : ev1 t p g = smZ t p g := if_pos hs
    rw [if_pos hs, e]
    rfl
  · rcases evK4 hs hJ.1.2.2.2.2.2.2 with q | q
    · exact absurd q.1 h4
    · have e : ev1 t p g = egZ g := if_neg hs
      rw [if_neg hs, if_neg (by omega), e]
      show eT t p (g 4 - g 5 - 1) _ = eT t p (g 4 - (if g 5 + 1 < g 4 then g 5 + 1 else 0)) _
      rw [if_pos (by omega), show g 4 - g 5 - 1 = g 4 - (g 5 + 1) by omega]
theorem oT_4 {t p g : Nat → Int} {u : Int} (hJ : sgJ u t p g) (hu : 0 ≤ u) (h : keS t g ≤ 6000002) (h4 : J (evK t g) = J 4) : ¬ evS t g ∧ oT t p g = g 1 ∧ keS t g = 3 * g 1 + 2 := by
  have hs : ¬ evS t g := fun q => evK_s q h4
  obtain ⟨u', -, -, -, -, -, k6, -⟩ := ev1_J hJ hu (show keS t g ≤ 6300002 by omega)
  have s6 := k6 hs
  refine ⟨hs, ?_, ?_⟩
  · unfold oT
    rw [eT_1 hJ hu h, if_neg hs]
    rcases evK4 hs hJ.1.2.2.2.2.2.2 with q | q
    · rw [if_pos (by omega)]
    · exact absurd h4 q.1
  · unfold keS
    rw [if_neg hs, if_neg (by omega)]
end OUTPUTS
