/-! Bounds of what is measured. -/
section BOUNDS
variable {t p : Nat → Int}
theorem smZ_u {u : Int} {g : Nat → Int} (hJ : sgJ u t p g) (hs : evS t g) : sgJ u t p (smZ t p g) := by
  obtain ⟨⟨a0, a1, a2, a3, a4, a5⟩, b, c, d⟩ := hJ
  have e : (((g 9).toNat : Nat) : Int) = g 9 := by omega
  have q := hs.1
  obtain ⟨c1, c2, -⟩ := c (g 9).toNat (by omega)
  have d1 := d (g 9).toNat (by omega) (by omega)
  refine ⟨⟨c2, fun q => ?_, fun q => ?_, a3, a4, a5⟩, ⟨?_, ?_, b.2.2⟩, c, fun i h1 h2 => ?_⟩
  · show (if 0 < p (g 9).toNat then _ else _) = _
    rw [if_neg (by have : p (g 9).toNat = 0 := q; omega)]
  · show _ < (if 0 < p (g 9).toNat then _ else _) ∧ (if 0 < p (g 9).toNat then _ else _) ≤ _
    have q' : 0 < p (g 9).toNat := q
    rw [if_pos q']; omega
  · show 0 ≤ g 9 + 1; omega
  · show g 9 + 1 ≤ g 8; omega
  · have h1' : g 9 + 1 ≤ (i : Int) := h1
    exact d i (by omega) h2
theorem sgK_uB {K B : Int} (hK : K ≤ 6300002) (hB : (K - 2) / 3 = B) : ∀ (n : Nat) (u : Int) (g : Nat → Int), sgJ u t p g → 0 ≤ u → u ≤ B → K - keS t g < n →
    (∃ u', sgJ u' t p (sgK t p K g) ∧ u' ≤ B) ∧ sgK t p K g 2 - g 2 ≤ B - u
  | 0, u, g, hJ, hu, huB, hn => by
    rw [sgK_0 (by omega)]
    exact ⟨⟨u, hJ, huB⟩, by omega⟩
  | n + 1, u, g, hJ, hu, huB, hn => by
    by_cases h : K < keS t g
    · rw [sgK_0 h]
      exact ⟨⟨u, hJ, huB⟩, by omega⟩
    · obtain ⟨u1, k1, k2, k3, k4, k5, k6, k7⟩ := ev1_J hJ hu (show keS t g ≤ 6300002 by omega)
      rw [sgK_ev hJ hu hK (by omega)]
      by_cases hs : evS t g
      · have e : ev1 t p g = smZ t p g := if_pos hs
        rw [e] at k5 ⊢
        have := sgK_uB hK hB n u _ (smZ_u hJ hs) hu huB (by omega)
        have e2 : smZ t p g 2 = g 2 := rfl
        rw [e2] at this
        exact this
      · have e : ev1 t p g = egZ g := if_neg hs
        obtain ⟨s1, s2, s3, s4⟩ := k6 hs
        have hk : keS t g = 3 * g 1 + 2 := by unfold keS; rw [if_neg hs, if_neg (by omega)]
        rw [e] at k1 k5 ⊢
        have := sgK_uB hK hB n u1 _ k1 (by omega) (by omega) (by omega)
        have e2 : egZ g 2 = g 2 + 1 := rfl
        rw [e2] at this
        exact ⟨this.1, by omega⟩
theorem sgK_B {K B u : Int} {g : Nat → Int} (hK : K ≤ 6300002) (hB : (K - 2) / 3 = B) (hJ : sgJ u t p g) (hu : 0 ≤ u) (huB : u ≤ B) : sgJ B t p (sgK t p K g) ∧ sgK t p K g 2 - g 2 ≤ B - u := by
  obtain ⟨⟨u', k1, k2⟩, k3⟩ := sgK_uB hK hB (K - keS t g + 1).toNat u g hJ hu huB (by omega)
  obtain ⟨s1, -⟩ := sgK_J hJ hu (show u ≤ 2100000 by omega) hK
  refine ⟨?_, k3⟩
  obtain ⟨⟨a0, a1, a2, a3, a4, a5⟩, b, c, d⟩ := k1
  have hkey : ∀ z : Int, (sgK t p K g 1 = z → z ≠ -1 → B < z) := by
    intro z hz hz1
    unfold keS at s1
    split at s1
    · rename_i q
      have := q.2
      omega
    · rw [if_neg (by omega)] at s1
      omega
  refine ⟨⟨a0, a1, fun q => ⟨hkey _ rfl (by have := a2 q; have := a3; omega), (a2 q).2⟩, by omega, a4, a5⟩, b, c, fun i h1 h2 => ?_⟩
  have q : sgK t p K g 9 < sgK t p K g 8 := by omega
  have e : (((sgK t p K g 9).toNat : Nat) : Int) = sgK t p K g 9 := by omega
  have h9 : B ≤ t (sgK t p K g 9).toNat := by
    unfold keS at s1
    split at s1
    · omega
    · rename_i z
      have z1 : ¬ sgK t p K g 1 = -1 := fun y => z ⟨q, Or.inl y⟩
      have z2 : ¬ t (sgK t p K g 9).toNat ≤ sgK t p K g 1 := fun y => z ⟨q, Or.inr y⟩
      have := hkey _ rfl z1
      omega
  by_cases z : (sgK t p K g 9).toNat = i
  · rw [← z]; exact h9
  · have := (c i h2).2.2 (sgK t p K g 9).toNat (by omega)
    omega
theorem val_le {o n st k P L : Int} (hn : 1 ≤ n ∧ n ≤ 2100000) (hs : 10 ≤ st ∧ st ≤ 999) (hk : -99 ≤ k ∧ k ≤ 99) (ho : 0 ≤ o * P) (hL : o * P * 1000000000 ≤ 2000000000 * (n * 9010)) : 0 ≤ valZ o n st k P ∧ valZ o n st k P ≤ 2000000000 := by
  have a1 : n * 10 ≤ n * st := Int.mul_le_mul_of_nonneg_left hs.1 (by omega)
  have a2 : n * 10 * 901 ≤ n * st * (1000 + k) := Int.mul_le_mul a1 (by omega) (by omega) (by omega)
  have a3 : n * 10 * 901 = n * 9010 := by omega
  unfold valZ
  refine ⟨Int.ediv_nonneg (by omega) (by omega), ?_⟩
  refine Int.ediv_le_of_le_mul (by omega) ?_
  omega
def gM (h c g t p : Nat → Int) : Nat → Int := msZ 0 (c 4) ((tkN (h 1).toNat c) 4) (gO t p (h 1).toNat c g) (valZ (gO t p (h 1).toNat c g) (h 1) (c 0) (h 3) (g 4)) (h 1) (h 3)
def pM (h c g t p : Nat → Int) : Nat → Int := msZ 1 (oN t p 0 g) (oN t p (h 2).toNat g) (cO t p (h 2).toNat c g) (valZ (h 2) (cO t p (h 2).toNat c g) (c 0) (h 3) (g 4)) (h 2) (h 3)
/-- why it is refused -/
def gW (h c : Nat → Int) : Int := if (tkN (h 1).toNat c) 4 ≤ 2000000 then 0 else 1
def pW (h c g t p : Nat → Int) : Int := if oN t p (h 2).toNat g = -1 then (if sgK t p 6000002 g 0 = 0 then 2 else 1) else if cO t p (h 2).toNat c g = 0 then 3 else 0
theorem gW_0 {h c : Nat → Int} : gW h c = 0 ↔ (tkN (h 1).toNat c) 4 ≤ 2000000 := by
  unfold gW
  split <;> omega
theorem pW_0 {h c g : Nat → Int} : pW h c g t p = 0 ↔ oN t p (h 2).toNat g ≠ -1 ∧ cO t p (h 2).toNat c g ≠ 0 := by
  unfold pW
  by_cases q : oN t p (h 2).toNat g = -1
  · rw [if_pos q]
    constructor
    · intro z
      split at z <;> omega
    · exact fun z => absurd q z.1
  · rw [if_neg q]
    by_cases q2 : cO t p (h 2).toNat c g = 0
    · rw [if_pos q2]
      exact ⟨fun z => by omega, fun z => absurd q2 z.2⟩
    · rw [if_neg q2]
      exact ⟨fun _ => ⟨q, q2⟩, fun _ => rfl⟩
theorem gM_V {h c g : Nat → Int} (hh : hV h) (hc : ckV c) (hg : sgV t p g) (hu : ∃ u, sgJ u t p g ∧ 0 ≤ u ∧ u ≤ h 0) (hT : h 0 < c 4) (hW : gW h c = 0) : msV (gM h c g t p) := by
  obtain ⟨hv0, hv1, hv2, hv3, hv5⟩ := hh
  have h4 := gW_0.mp hW
  obtain ⟨G, hG⟩ : ∃ G : Nat, G = (h 1).toNat := ⟨_, rfl⟩
  have hG' : h 1 = G := by omega
  rw [← hG] at h4
  obtain ⟨gV, g4, gK, o1, o2⟩ := gG_V (G := G) hc.1 hg h4
  have hm4 := tkN_mono hc.1 (show 0 ≤ G by omega)
  have c0 : (tkN 0 c) 4 = c 4 := rfl
  have hin := (tkN_inv hc.1 G).2.2.2.1
  have h40 := hc.1.2.2.2.2
  obtain ⟨u, hJ, q0, q1⟩ := hu
  have B0 := (sgK_B (K := 3 * c 4) (B := c 4 - 1) (by omega) (by omega) hJ q0 (by omega)).1
  have B1 := (sgK_B (K := 3 * (tkN G c) 4) (B := (tkN G c) 4 - 1) (by omega) (by omega) B0 (by omega) (by omega)).2
  have S1 := sgK_sum (K := 3 * (tkN G c) 4) B0 (by omega) (by omega) (by omega)
  have gK' : sgK t p (3 * (tkN G c) 4) (sgK t p (3 * c 4) g) = gG t p G c g := gK
  rw [gK'] at B1 S1
  have e4 : sgK t p (3 * c 4) g 4 = g 4 := (sgV_K hg (by omega)).2.2
  rw [e4] at S1
  have r5 := B0.1.2.2.2.2.2
  rw [e4] at r5
  obtain ⟨u2, j2, -⟩ := gV.1
  have r6 := j2.1.2.2.2.2.2
  have gP : 1 ≤ g 4 ∧ g 4 ≤ 16 := hJ.1.2.2.2.2.1
  have e0 : gG t p 0 c g = sgK t p (3 * c 4) g := rfl
  have eO : gO t p G c g * g 4 = gG t p G c g 3 * g 4 - sgK t p (3 * c 4) g 3 * g 4 := by unfold gO; rw [e0, Int.sub_mul]
  have hO : gO t p G c g * g 4 ≤ 1000 * G + 15 := by omega
  have hO0 : 0 ≤ gO t p G c g * g 4 := Int.mul_nonneg o1 (by omega)
  obtain ⟨w1, w2⟩ := val_le (o := gO t p G c g) (n := h 1) (st := c 0) (k := h 3) (P := g 4) (L := 0) (by omega) hc.1.1 hv3 hO0 (by omega)
  unfold gM
  rw [← hG]
  exact ⟨Or.inl rfl, ⟨h40.1, by show c 4 ≤ _; omega⟩, ⟨by show 0 ≤ (tkN G c) 4; omega, h4⟩, ⟨o1, o2⟩, ⟨w1, w2⟩, hv1, hv3, fun q => by have : (0 : Int) = 1 := q; omega⟩
theorem cO_B {h c g : Nat → Int} {G : Nat} (hc : ckV c) (hg : sgV t p g) (hO : oN t p G g ≠ -1) : 0 ≤ cO t p G c g ∧ cO t p G c g ≤ 300000 := by
  obtain ⟨⟨u, hJ, q0, q1⟩, -⟩ := id hg
  obtain ⟨z1, z2⟩ := oN_le hJ q0 q1 hO (Nat.zero_le G)
  have r0 := oN_rng (i := 0) hg
  have rG := oN_rng (i := G) hg
  obtain ⟨cV0, cT0, cM0, c00⟩ := ckV_K (T := oN t p 0 g) hc (by omega)
  obtain ⟨cV1, cT1, cM1, c01⟩ := ckV_K (T := oN t p G g) cV0 (by omega)
  rw [ckK_K (T := oN t p 0 g) (U := oN t p G g) hc.1 z2] at cV1 cM1
  have := cV1.2.1
  have := cV0.1.2.2.2.2.2
  unfold cO
  omega
theorem pM_V {h c g : Nat → Int} (hh : hV h) (hc : ckV c) (hg : sgV t p g) (hW : pW h c g t p = 0) : msV (pM h c g t p) := by
  obtain ⟨hv0, hv1, hv2, hv3, hv5⟩ := hh
  obtain ⟨hO, hC⟩ := pW_0.mp hW
  obtain ⟨⟨u, hJ, q0, q1⟩, -⟩ := id hg
  obtain ⟨o1, o2⟩ := cO_B (h := h) hc hg hO
  obtain ⟨z1, z2⟩ := oN_le hJ q0 q1 hO (Nat.zero_le (h 2).toNat)
  have r0 := oN_rng (i := 0) hg
  have rG := oN_rng (i := (h 2).toNat) hg
  have gP : 1 ≤ g 4 ∧ g 4 ≤ 16 := hJ.1.2.2.2.2.1
  have m1 : 0 ≤ h 2 * g 4 := Int.mul_nonneg (by omega) (by omega)
  have m2 : h 2 * g 4 ≤ 999 * 16 := Int.mul_le_mul (by omega) (by omega) (by omega) (by omega)
  obtain ⟨w1, w2⟩ := val_le (o := h 2) (n := cO t p (h 2).toNat c g) (st := c 0) (k := h 3) (P := g 4) (L := 0) (by omega) hc.1.1 hv3 m1 (by omega)
  unfold pM
  refine ⟨Or.inr rfl, ⟨?_, ?_⟩, ⟨?_, ?_⟩, ⟨?_, ?_⟩, ⟨w1, w2⟩, ⟨?_, ?_⟩, hv3, fun _ => ⟨?_, ?_⟩⟩
  · show 0 ≤ oN t p 0 g; omega
  · show oN t p 0 g ≤ _; omega
  · show 0 ≤ oN t p (h 2).toNat g; omega
  · show oN t p (h 2).toNat g ≤ _; omega
  · exact o1
  · show cO t p (h 2).toNat c g ≤ _; omega
  · show 1 ≤ h 2; omega
  · show h 2 ≤ 9999; omega
  · show 1 ≤ cO t p (h 2).toNat c g; omega
  · show h 2 ≤ 999; omega
end BOUNDS
