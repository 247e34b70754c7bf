/-! The class's signal by its events. -/
section SIGNAL2
theorem egN_89 (n : Nat) (g : Nat → Int) : egN n g 8 = g 8 ∧ egN n g 9 = g 9 := by
  induction n with
  | zero => exact ⟨rfl, rfl⟩
  | succ n ih => exact ih
/-- times and periods of other segments have no say -/
theorem psZ_congr {t p t' p' : Nat → Int} {A B : Int} : ∀ (n : Nat) (g : Nat → Int), 0 ≤ g 9 → (∀ i : Nat, (i : Int) < g 8 → t i = t' i ∧ p i = p' i) → psZ t p A B n g = psZ t' p' A B n g
  | 0, g, _, _ => rfl
  | n + 1, g, h9, h => by
    show (if _ then _ else _) = (if _ then _ else _)
    by_cases q : g 9 < g 8
    · have h1 := h (g 9).toNat (by omega)
      obtain ⟨e8, e9⟩ := egN_89 (edN (t (g 9).toNat - 1) g).toNat g
      have e8' : edE (t (g 9).toNat - 1) g 8 = g 8 := e8
      have e9' : edE (t (g 9).toNat - 1) g 9 = g 9 := e9
      have es : smZ t p (edE (t (g 9).toNat - 1) g) = smZ t' p' (edE (t (g 9).toNat - 1) g) := by
        funext k
        unfold smZ
        rw [e9', h1.1, h1.2]
      rw [← h1.1]
      by_cases q2 : g 9 < g 8 ∧ t (g 9).toNat ≤ A
      · rw [if_pos q2, if_pos q2, ← es]
        refine psZ_congr n _ ?_ ?_
        · show 0 ≤ edE (t (g 9).toNat - 1) g 9 + 1; rw [e9']; omega
        · intro i hi
          have : smZ t p (edE (t (g 9).toNat - 1) g) 8 = g 8 := e8'
          rw [this] at hi
          exact h i hi
      · rw [if_neg q2, if_neg q2]
    · rw [if_neg (fun z => q z.1), if_neg (fun z => q z.1)]
theorem sgK_congr {t p t' p' g : Nat → Int} {K : Int} (h9 : 0 ≤ g 9) (h : ∀ i : Nat, (i : Int) < g 8 → t i = t' i ∧ p i = p' i) : sgK t p K g = sgK t' p' K g := psZ_congr _ g h9 h
theorem evS_congr {t p t' p' g : Nat → Int} (h9 : 0 ≤ g 9) (h : ∀ i : Nat, (i : Int) < g 8 → t i = t' i ∧ p i = p' i) : (evS t g ↔ evS t' g) ∧ keS t g = keS t' g ∧ ev1 t p g = ev1 t' p' g := by
  have e : evS t g ↔ evS t' g := by
    constructor
    · rintro ⟨q1, q2⟩
      rw [(h (g 9).toNat (by omega)).1] at q2
      exact ⟨q1, q2⟩
    · rintro ⟨q1, q2⟩
      rw [← (h (g 9).toNat (by omega)).1] at q2
      exact ⟨q1, q2⟩
  refine ⟨e, ?_, ?_⟩
  · unfold keS
    by_cases q : evS t g
    · rw [if_pos q, if_pos (e.mp q), (h (g 9).toNat (by have := q.1; omega)).1]
    · rw [if_neg q, if_neg (fun z => q (e.mpr z))]
  · unfold ev1
    by_cases q : evS t g
    · rw [if_pos q, if_pos (e.mp q)]
      funext k
      have h1 := h (g 9).toNat (by have := q.1; omega)
      unfold smZ
      rw [h1.1, h1.2]
    · rw [if_neg q, if_neg (fun z => q (e.mpr z))]
theorem eTf_congr {t p t' p' : Nat → Int} : ∀ (n : Nat) (k : Int) (g : Nat → Int), 0 ≤ g 9 → (∀ i : Nat, (i : Int) < g 8 → t i = t' i ∧ p i = p' i) → eTf t p n k g = eTf t' p' n k g
  | 0, k, g, _, _ => rfl
  | n + 1, k, g, h9, h => by
    obtain ⟨e1, e2, e3⟩ := evS_congr h9 h
    show (if _ then _ else _) = (if _ then _ else _)
    rw [← e2, ← e3]
    have h9' : 0 ≤ ev1 t p g 9 := by
      unfold ev1
      split
      · show 0 ≤ g 9 + 1; omega
      · exact h9
    have h8 : ev1 t p g 8 = g 8 := by unfold ev1; split <;> rfl
    have r := fun k => eTf_congr n k (ev1 t p g) h9' (fun i hi => h i (by rw [h8] at hi; exact hi))
    by_cases q : 6000002 < keS t g
    · rw [if_pos q, if_pos q]
    · rw [if_neg q, if_neg q]
      by_cases q2 : evS t g
      · rw [if_pos q2, if_pos (e1.mp q2)]; exact r k
      · rw [if_neg q2, if_neg (fun z => q2 (e1.mpr z))]
        split
        · rfl
        · exact r (k - 1)
theorem eT_congr {t p t' p' g : Nat → Int} {k : Int} (h9 : 0 ≤ g 9) (h : ∀ i : Nat, (i : Int) < g 8 → t i = t' i ∧ p i = p' i) : eT t p k g = eT t' p' k g := by
  unfold eT
  rw [(evS_congr h9 h).2.1]
  exact eTf_congr _ k g h9 h
theorem sgJ_congr {t p t' p' g : Nat → Int} {u : Int} (hJ : sgJ u t p g) (h : ∀ i : Nat, (i : Int) < g 8 → t i = t' i ∧ p i = p' i) : sgJ u t' p' g := by
  obtain ⟨a, b, c, d⟩ := hJ
  refine ⟨a, b, fun i hi => ?_, fun i h1 h2 => ?_⟩
  · obtain ⟨c1, c2, c3⟩ := c i hi
    obtain ⟨e1, e2⟩ := h i hi
    rw [← e1, ← e2]
    refine ⟨c1, c2, fun j hj => ?_⟩
    rw [← (h j (by omega)).1]
    exact c3 j hj
  · rw [← (h i h2).1]
    exact d i h1 h2
/-- a signal in memory -/
def sgR (S : shp) (v : vl) (a : Nat) (t p g : Nat → Int) : Prop := sgL S a ∧ rw v a = iz g ∧ rw v (a + 1) = iz t ∧ rw v (a + 2) = iz p ∧ rB g ∧ rB t ∧ rB p ∧ ∃ u, sgJ u t p g ∧ 0 ≤ u ∧ u ≤ 2100000
theorem sgK_keep {u : Int} {t p g : Nat → Int} {K : Int} (hJ : sgJ u t p g) (hu : 0 ≤ u) (hu2 : u ≤ 2100000) (hK : K ≤ 6300002) : ∀ k, (k = 4 ∨ k = 6 ∨ k = 7 ∨ k = 8 ∨ 10 ≤ k) → sgK t p K g k = g k := by
  refine sgK_M hJ hu hu2 hK (fun h => ∀ k, (k = 4 ∨ k = 6 ∨ k = 7 ∨ k = 8 ∨ 10 ≤ k) → h k = g k) (fun k _ => rfl) (fun u h _ _ _ hM _ k hk => ?_)
  rw [← hM k hk]
  unfold ev1
  split
  · match k with
    | 0 => omega
    | 1 => omega
    | 2 => rfl
    | 3 => rfl
    | 4 => rfl
    | 5 => rfl
    | 6 => rfl
    | 7 => rfl
    | 8 => rfl
    | 9 => omega
    | j + 10 => rfl
  · match k with
    | 0 => rfl
    | 1 => omega
    | 2 => omega
    | 3 => omega
    | 4 => rfl
    | 5 => omega
    | 6 => rfl
    | 7 => rfl
    | 8 => rfl
    | 9 => rfl
    | j + 10 => rfl
theorem sgJ_rB {u : Int} {t p g g' : Nat → Int} (hJ : sgJ u t p g) (hu : 0 ≤ u) (hu2 : u ≤ 2100000) (hr : rB g') (hk : ∀ k, (k = 6 ∨ k = 7 ∨ 10 ≤ k) → g k = g' k) : rB g := by
  obtain ⟨a0, a1, a2, a3, a4, a5⟩ := sgI_B hJ.1 ⟨hu, hu2⟩
  have b := hJ.2.1
  intro k
  match k with
  | 0 => omega
  | 1 => omega
  | 2 => omega
  | 3 => omega
  | 4 => omega
  | 5 => omega
  | 6 => rw [hk 6 (by decide)]; exact hr 6
  | 7 => rw [hk 7 (by decide)]; exact hr 7
  | 8 => omega
  | 9 => omega
  | j + 10 => rw [hk (j + 10) (by omega)]; exact hr _
theorem sgR_K {S : shp} {v : vl} {a : Nat} {t p g : Nat → Int} {K : Int} (h : sgR S v a t p g) (hK : K ≤ 6300002) : sgR S (wr v a (iz (sgK t p K g))) a t p (sgK t p K g) := by
  obtain ⟨hl, hg, ht, hp, rg, rt, rp, u, hJ, h0, h1⟩ := h
  obtain ⟨-, u', k2, k3, k4, k5⟩ := sgK_J hJ h0 h1 hK
  have kk := sgK_keep hJ h0 h1 hK
  exact ⟨hl, rw_wr, by rw [rw_wr_ne (by omega)]; exact ht, by rw [rw_wr_ne (by omega)]; exact hp, sgJ_rB k2 (by omega) k5 rg (fun k hk => kk k (by omega)), rt, rp, u', k2, by omega, k5⟩
theorem sg_pass' {S : shp} {v : vl} {a N : Nat} {t p g : Nat → Int} {K A B : Int} (hN : 100 ≤ N) (h : sgR S v a t p g) (hA : K / 3 = A) (hB : (K - 2) / 3 = B) (hK : 0 ≤ K ∧ K ≤ 6300002) :
    F_sg_pass N a (J A) (J B) S v = some (wr v a (iz (sgK t p K g))) := by
  obtain ⟨hl, hg, ht, hp, rg, rt, rp, u, hJ, h0, h1⟩ := h
  have b := hJ.2.1
  unfold F_sg_pass
  rw [grd_true _ hl.1, gi_rw, hg]
  have := sg_pass (S := S) (N := N) (A := A) (B := B) hl rt rp (by omega) (by omega) N (g 8 - g 9).toNat u v g hg ht hp rg hJ h0 h1 (by omega) (by omega)
  unfold sgK
  rw [hA, hB]
  exact this
theorem sg_passTo' {S : shp} {v : vl} {a N : Nat} {t p g : Nat → Int} {T : Int} (hN : 100 ≤ N) (h : sgR S v a t p g) (hT : 0 ≤ T ∧ T ≤ 2100000) :
    F_sg_passTo N a (J T) S v = some (wr v a (iz (sgK t p (3 * T + 2) g))) := by
  unfold F_sg_passTo
  rw [grd_true _ h.1.1, sg_pass' (K := 3 * T + 2) hN h (by omega) (by omega) (by omega)]
  rfl
theorem sg_passAhead {S : shp} {v : vl} {a N : Nat} {t p g : Nat → Int} {T : Int} (hN : 100 ≤ N) (h : sgR S v a t p g) (hT : 0 ≤ T ∧ T ≤ 2100000) :
    F_sg_passAheadOfClock N a (J T) S v = some (wr v a (iz (sgK t p (3 * T) g))) := by
  have e : J T - J 1 = J (T - 1) := by
    have tT : (J T).toInt = T := J_toInt (by omega) (by omega)
    refine i_eq.mpr ?_
    rw [i_sub, tT, tJ, J_toInt (by omega) (by omega)]
    · rw [tT, tJ]; omega
    · rw [tT, tJ]; omega
  unfold F_sg_passAheadOfClock
  rw [grd_true _ h.1.1, e, sg_pass' (K := 3 * T) hN h (by omega) (by omega) (by omega)]
  rfl
-- the time of the k-th edge
theorem edN_pos {B : Int} {g : Nat → Int} (h : 0 < edN B g) : g 1 ≠ -1 ∧ g 1 ≤ B ∧ 0 < g 0 := by
  unfold edN edF at h
  by_cases q : g 1 ≠ -1 ∧ g 1 ≤ B ∧ 0 < g 0
  · exact q
  · rw [if_neg q] at h
    omega
theorem edN_step {T : Int} {g : Nat → Int} (h0 : 0 < g 0) (h1 : 0 ≤ g 1) (hT : g 1 ≤ T) : edN T g = edN T (egZ g) + 1 := by
  have e1 : egZ g 1 = g 1 + g 0 := rfl
  have e0 : egZ g 0 = g 0 := rfl
  unfold edN edF
  rw [e1, e0, if_pos ⟨by omega, hT, h0⟩]
  by_cases q : g 1 + g 0 ≤ T
  · rw [if_pos ⟨by omega, q, h0⟩]
    have e : T - g 1 = (T - (g 1 + g 0)) + 1 * g 0 := by omega
    rw [e, Int.add_mul_ediv_right _ _ (by omega)]
  · rw [if_neg fun z => q z.2.1, Int.ediv_eq_zero_of_lt (by omega) (by omega)]
theorem eT_run {t p : Nat → Int} {B : Int} (hB : B ≤ 2000000) : ∀ (n : Nat) (u k : Int) (g : Nat → Int), sgJ u t p g → 0 ≤ u → (g 9 < g 8 → B < t (g 9).toNat) → edN B g = n → 1 ≤ k → eT t p k g = if k ≤ n then g 1 + (k - 1) * g 0 else eT t p (k - n) (edE B g)
  | 0, u, k, g, _, _, _, hn, hk => by
    rw [if_neg (by omega), edE_n0 (by omega)]
    congr 1
    omega
  | n + 1, u, k, g, hJ, hu, hs, hn, hk => by
    obtain ⟨c1, c2, c3⟩ := edN_pos (show 0 < edN B g by omega)
    have c4 := (hJ.1.2.2.1 c3).1
    have ns : ¬ evS t g := fun q => by have := q.2; have := hs q.1; omega
    have hk3 : keS t g = 3 * g 1 + 2 := by unfold keS; rw [if_neg ns, if_neg c1]
    obtain ⟨u', k1, k2, k3, k4, -⟩ := ev1_J hJ hu (show keS t g ≤ 6300002 by omega)
    have e : ev1 t p g = egZ g := if_neg ns
    rw [e] at k1
    rw [eT_1 hJ hu (by omega), if_neg ns, e]
    by_cases q : k ≤ 1
    · rw [if_pos q, if_pos (by omega), show k = 1 by omega]
      omega
    · have hn' : edN B (egZ g) = n := by have := edN_step c3 (by omega) c2; omega
      rw [if_neg q, eT_run hB n u' (k - 1) (egZ g) k1 (by omega) hs hn' (by omega), ← edE_step c3 (by omega) c2]
      have e1 : egZ g 1 = g 1 + g 0 := rfl
      have e0 : egZ g 0 = g 0 := rfl
      rw [e1, e0]
      by_cases q2 : k - 1 ≤ n
      · rw [if_pos q2, if_pos (by omega), Int.sub_mul (k - 1) 1, Int.one_mul]; omega
      · rw [if_neg q2, if_neg (by omega)]
        congr 1
        omega
/-- a step of the class's loop -/
theorem eT_seg {t p g : Nat → Int} {u k : Int} (hJ : sgJ u t p g) (hu : 0 ≤ u) (hu2 : u ≤ 2100000) (hr : rB g) (hlt : g 9 < g 8) (hk : 1 ≤ k) : eT t p k g = if k ≤ edN (t (g 9).toNat - 1) g then g 1 + (k - 1) * g 0 else eT t p (k - edN (t (g 9).toNat - 1) g) (smZ t p (edE (t (g 9).toNat - 1) g)) := by
  obtain ⟨hI, b, c, d⟩ := id hJ
  obtain ⟨c1, c2, -⟩ := c (g 9).toNat (by omega)
  have d1 := d (g 9).toNat (by omega) (by omega)
  have hn := edN_nn (t (g 9).toNat - 1) g
  rw [eT_run (B := t (g 9).toNat - 1) (by omega) (edN (t (g 9).toNat - 1) g).toNat u k g hJ hu (fun _ => by omega) (by omega) hk, show (((edN (t (g 9).toNat - 1) g).toNat : Nat) : Int) = edN (t (g 9).toNat - 1) g by omega]
  split
  · rfl
  · obtain ⟨e8, e9⟩ := egN_89 (edN (t (g 9).toNat - 1) g).toNat g
    have e8' : edE (t (g 9).toNat - 1) g 8 = g 8 := e8
    have e9' : edE (t (g 9).toNat - 1) g 9 = g 9 := e9
    -- the state ahead of the segment
    have hev : (edE (t (g 9).toNat - 1) g 1 = -1 ∨ t (g 9).toNat ≤ edE (t (g 9).toNat - 1) g 1) ∧ ∃ u', sgJ u' t p (edE (t (g 9).toNat - 1) g) ∧ 0 ≤ u' := by
      by_cases q : t (g 9).toNat - 1 ≤ u
      · rw [edE_0 hI q]
        refine ⟨?_, u, hJ, hu⟩
        by_cases z : 0 < g 0
        · have := hI.2.2.1 z; omega
        · have := hI.2.1 (by have := hI.1; omega); omega
      · obtain ⟨k1, k2, k3⟩ := edE_I hI hu (show u ≤ t (g 9).toNat - 1 by omega) (by omega)
        refine ⟨?_, t (g 9).toNat - 1, ⟨k1, by rw [e9', e8']; exact b, by rw [e8']; exact c, fun i h1 h2 => ?_⟩, by omega⟩
        · by_cases z : 0 < edE (t (g 9).toNat - 1) g 0
          · have := k1.2.2.1 z; omega
          · have := k1.2.1 (by have := k1.1; omega); omega
        · rw [e9'] at h1
          rw [e8'] at h2
          by_cases z : (g 9).toNat = i
          · rw [← z]; omega
          · have := (c i h2).2.2 (g 9).toNat (by omega)
            omega
    obtain ⟨hev1, u', hJ', hu'⟩ := hev
    have hs : evS t (edE (t (g 9).toNat - 1) g) := ⟨by omega, by rw [e9']; exact hev1⟩
    have hk3 : keS t (edE (t (g 9).toNat - 1) g) = 3 * t (g 9).toNat := by unfold keS; rw [if_pos hs, e9']
    rw [eT_1 hJ' hu' (by omega), if_pos hs]
    have e : ev1 t p (edE (t (g 9).toNat - 1) g) = smZ t p (edE (t (g 9).toNat - 1) g) := if_pos hs
    rw [e]
theorem eT_last {t p g : Nat → Int} {u k : Int} (hJ : sgJ u t p g) (hu : 0 ≤ u) (hu2 : u ≤ 2100000) (hlt : ¬ g 9 < g 8) (hk : 1 ≤ k) : eT t p k g = if k ≤ edN 2000000 g then g 1 + (k - 1) * g 0 else -1 := by
  have hI := hJ.1
  have hn := edN_nn 2000000 g
  rw [eT_run (B := 2000000) (by omega) (edN 2000000 g).toNat u k g hJ hu (fun z => absurd z hlt) (by omega) hk, show (((edN 2000000 g).toNat : Nat) : Int) = edN 2000000 g by omega]
  split
  · rfl
  · obtain ⟨e8, e9⟩ := egN_89 (edN 2000000 g).toNat g
    have e8' : edE 2000000 g 8 = g 8 := e8
    have e9' : edE 2000000 g 9 = g 9 := e9
    refine eT_0 ?_
    have ns : ¬ evS t (edE 2000000 g) := fun q => hlt (by have := q.1; omega)
    have fin : edE 2000000 g 1 = -1 ∨ 2000000 < edE 2000000 g 1 := by
      by_cases q : u ≤ 2000000
      · obtain ⟨k1, k2, k3⟩ := edE_I (T := 2000000) hI hu q (by decide)
        by_cases y : edE 2000000 g 0 = 0
        · exact Or.inl (k1.2.1 y)
        · exact Or.inr (k1.2.2.1 (by have := k1.1; omega)).1
      · rw [edE_0 hI (by omega)]
        by_cases y : g 0 = 0
        · exact Or.inl (hI.2.1 y)
        · have := (hI.2.2.1 (by have := hI.1; omega)).1
          right
          omega
    unfold keS
    rw [if_neg ns]
    split <;> omega
theorem ed_val {B k : Int} {g : Nat → Int} (h : k ≤ edN B g) (hk : 1 ≤ k) : 0 ≤ (k - 1) * g 0 ∧ g 1 + (k - 1) * g 0 ≤ B := by
  have c := edN_pos (show 0 < edN B g by omega)
  unfold edN edF at h
  rw [if_pos c] at h
  have h1 : (k - 1) * g 0 ≤ (B - g 1) / g 0 * g 0 := Int.mul_le_mul_of_nonneg_right (by omega) (by omega)
  have h2 := Int.ediv_mul_le (B - g 1) (b := g 0) (by omega)
  exact ⟨Int.mul_nonneg (by omega) (by omega), by omega⟩
theorem sg_timeAfter_loop {S : shp} {v : vl} {a N : Nat} {t p : Nat → Int} {G8 : Int} (hl : sgL S a) (h8 : rw v a 8 = J G8) (ht : rw v (a + 1) = iz t) (hp : rw v (a + 2) = iz p) (rt : rB t) (rp : rB p) : ∀ (n m : Nat) (u k : Int) (h : Nat → Int), sgJ u t p h → 0 ≤ u → u ≤ 2100000 → rB h → h 8 = G8 → G8 - h 9 = m → m < n → 1 ≤ k → k ≤ 100000 →
    K_sg_timeAfter_19 N n S v a (J k) (J (h 1)) (J (h 0)) (J (h 9)) = some (J (eT t p k h))
  | 0, m, u, k, h, _, _, _, _, _, _, hn, _, _ => absurd hn (Nat.not_lt_zero _)
  | n + 1, m, u, k, h, hJ, hu, hu2, hr, e8, hm, hn, hk, hk2 => by
    obtain ⟨hI, b, c, d⟩ := id hJ
    obtain ⟨l1, l2, l3, l4, l5⟩ := id hl
    obtain ⟨b0, b1, -⟩ := sgI_B hI ⟨hu, hu2⟩
    have t9 : (J (h 9)).toInt = h 9 := J_toInt (by omega) (by omega)
    have tg8 : (J G8).toInt = G8 := J_toInt (by omega) (by omega)
    have tk : (J k).toInt = k := J_toInt (by omega) (by omega)
    have th1 : (J (h 1)).toInt = h 1 := J_toInt (by omega) (by omega)
    have th0 : (J (h 0)).toInt = h 0 := J_toInt (by omega) (by omega)
    have val : ∀ B, B ≤ 2000000 → k ≤ edN B h → J (h 1) + (J k - J 1) * J (h 0) = J (h 1 + (k - 1) * h 0) := by
      intro B hB hkB
      obtain ⟨v1, v2⟩ := ed_val hkB hk
      have s1 : (J k - J 1).toInt = k - 1 := by rw [i_sub, tk, tJ] <;> (rw [tk, tJ]; omega)
      have s2 : ((J k - J 1) * J (h 0)).toInt = (k - 1) * h 0 := by rw [i_mul, s1, th0] <;> (rw [s1, th0]; omega)
      refine i_eq.mpr ?_
      rw [i_add, s2, th1, J_toInt (by omega) (by omega)]
      · rw [s2, th1]; omega
      · rw [s2, th1]; omega
    show Y_sg_timeAfter_19 N (K_sg_timeAfter_19 N n S v) S v a (J k) (J (h 1)) (J (h 0)) (J (h 9)) = _
    unfold Y_sg_timeAfter_19
    rw [grd_true _ l1, gi_rw, h8]
    by_cases q : h 9 < h 8
    · have e9 : (((h 9).toNat : Nat) : Int) = h 9 := by omega
      have t9' : (J (h 9)).toInt = (((h 9).toNat : Nat) : Int) := by rw [t9, e9]
      obtain ⟨c1, c2, -⟩ := c (h 9).toNat (by omega)
      have gt : (rw v (a + 1) (h 9).toNat).toInt = t (h 9).toNat := by rw [ht]; exact zi_iz rt _
      have gp : rw v (a + 2) (h 9).toNat = J (p (h 9).toNat) := by rw [hp]; rfl
      have ts : (rw v (a + 1) (h 9).toNat - J 1).toInt = t (h 9).toNat - 1 := by rw [i_sub, gt, tJ] <;> (rw [gt, tJ]; omega)
      rw [if_pos (i_lt.mpr (by rw [t9, tg8]; omega)), l4]
      simp only [Option.bind_some]
      rw [grd_true _ l2, grd_true _ (vin_of l2 t9' (by omega))]
      simp only [clampT t9', gi_x]
      rw [sg_edges ts th1 th0 (by omega) (by omega)]
      simp only [Option.bind_some]
      have hnn := edN_nn (t (h 9).toNat - 1) h
      have hle := (edN_le (T := t (h 9).toNat - 1) (g := h) (by omega) (by omega)).1
      have ted : (J (edF (t (h 9).toNat - 1) (h 1) (h 0))).toInt = edN (t (h 9).toNat - 1) h := J_toInt (by unfold edN at hnn; omega) (by unfold edN at hle; omega)
      rw [eT_seg hJ hu hu2 hr q hk]
      by_cases q2 : edN (t (h 9).toNat - 1) h < k
      · rw [if_pos (i_lt.mpr (by rw [ted, tk]; exact q2)), if_neg (by omega)]
        have j9 : J (h 9) = J (((h 9).toNat : Nat) : Int) := by rw [e9]
        rw [j9, sg_firstEdge hl ht hp rt rp c (by omega) (by omega), ← j9]
        simp only [Option.bind_some]
        rw [l5]
        simp only [Option.bind_some]
        rw [grd_true _ l3, grd_true _ (vin_of l3 t9' (by omega))]
        simp only [lt_def, clampT t9', gi_x, gp]
        obtain ⟨jJ, j1, j2, j3⟩ := edE_J hJ hu hu2 q hr
        have g9' : smZ t p (edE (t (h 9).toNat - 1) h) 9 = h 9 + 1 := by show edE (t (h 9).toNat - 1) h 9 + 1 = _; rw [j1]
        have g8' : smZ t p (edE (t (h 9).toNat - 1) h) 8 = h 8 := j2
        have g0' : smZ t p (edE (t (h 9).toNat - 1) h) 0 = p (h 9).toNat := by show p (edE (t (h 9).toNat - 1) h 9).toNat = _; rw [j1]
        have g1' : smZ t p (edE (t (h 9).toNat - 1) h) 1 = if 0 < p (h 9).toNat then t (h 9).toNat + p (h 9).toNat else -1 := by
          show (if 0 < p (edE (t (h 9).toNat - 1) h 9).toNat then t (edE (t (h 9).toNat - 1) h 9).toNat + p (edE (t (h 9).toNat - 1) h 9).toNat else -1) = _
          rw [j1]
        have jn : J (h 9) + J 1 = J (h 9 + 1) := by
          refine i_eq.mpr ?_
          rw [i_add, t9, tJ, J_toInt (by omega) (by omega)]
          · rw [t9, tJ]; omega
          · rw [t9, tJ]; omega
        have jk : J k - J (edF (t (h 9).toNat - 1) (h 1) (h 0)) = J (k - edN (t (h 9).toNat - 1) h) := by
          refine i_eq.mpr ?_
          rw [i_sub, tk, ted, J_toInt (by omega) (by omega)]
          · rw [tk, ted]; omega
          · rw [tk, ted]; omega
        have hrB : rB (smZ t p (edE (t (h 9).toNat - 1) h)) := sgJ_rB jJ (by omega) (by omega) j3 (fun k hk => by
          match k with
          | 0 => omega
          | 1 => omega
          | 2 => omega
          | 3 => omega
          | 4 => omega
          | 5 => omega
          | 6 => rfl
          | 7 => rfl
          | 8 => omega
          | 9 => omega
          | j + 10 => rfl)
        have := sg_timeAfter_loop (N := N) hl h8 ht hp rt rp n (m - 1) (t (h 9).toNat) (k - edN (t (h 9).toNat - 1) h) _ jJ (by omega) (by omega) hrB (by omega) (by omega) (by omega) (by omega) (by omega)
        rw [g9', g0', g1'] at this
        rw [jk, jn]
        exact this
      · rw [if_neg (fun z => q2 (by have := i_lt.mp z; rw [ted, tk] at this; exact this)), if_pos (by omega), val (t (h 9).toNat - 1) (by omega) (by omega)]
    · rw [if_neg (fun z => q (by have := i_lt.mp z; rw [t9, tg8] at this; omega)), sg_edges tJ th1 th0 (by decide) (by omega)]
      simp only [Option.bind_some]
      have hnn := edN_nn 2000000 h
      have hle := (edN_le (T := 2000000) (g := h) (by omega) (by omega)).1
      have ted : (J (edF 2000000 (h 1) (h 0))).toInt = edN 2000000 h := J_toInt (by unfold edN at hnn; omega) (by unfold edN at hle; omega)
      rw [eT_last hJ hu hu2 q hk]
      by_cases q2 : edN 2000000 h < k
      · rw [if_pos (i_lt.mpr (by rw [ted, tk]; exact q2)), if_neg (by omega)]
      · rw [if_neg (fun z => q2 (by have := i_lt.mp z; rw [ted, tk] at this; exact this)), if_pos (by omega), val 2000000 (by omega) (by omega)]
theorem sg_timeAfter {S : shp} {v : vl} {a N : Nat} {t p g : Nat → Int} {k : Int} (hN : 100 ≤ N) (h : sgR S v a t p g) (hk : 1 ≤ k ∧ k ≤ 100000) : F_sg_timeAfter N a (J k) S v = some (J (eT t p k g)) := by
  obtain ⟨hl, hg, ht, hp, rg, rt, rp, u, hJ, h0, h1⟩ := h
  have b := hJ.2.1
  unfold F_sg_timeAfter
  rw [grd_true _ hl.1]
  simp only [gi_x, hg]
  exact sg_timeAfter_loop (N := N) hl (by rw [hg]; rfl) ht hp rt rp N (g 8 - g 9).toNat u k g hJ h0 h1 rg rfl (by omega) (by omega) hk.1 hk.2
theorem sg_timeOfOutput {S : shp} {v : vl} {a N : Nat} {t p g : Nat → Int} {n : Int} (hN : 100 ≤ N) (h : sgR S v a t p g) (hn : 1 ≤ n ∧ n ≤ 5000) : F_sg_timeOfOutput N a (J n) S v = some (J (eT t p (n * g 4 - g 5) g)) := by
  obtain ⟨hl, hg, ht, hp, rg, rt, rp, u, hJ, h0, h1⟩ := id h
  obtain ⟨-, -, -, -, b4, b5⟩ := sgI_B hJ.1 ⟨h0, h1⟩
  have gg : ∀ k, (rw v a k).toInt = g k := fun k => by rw [hg]; exact zi_iz rg k
  have tn : (J n).toInt = n := J_toInt (by omega) (by omega)
  have m1 : g 4 ≤ n * g 4 := by
    have := Int.mul_le_mul_of_nonneg_right (show 1 ≤ n by omega) (show 0 ≤ g 4 by omega)
    omega
  have m2 : n * g 4 ≤ 5000 * 16 := Int.mul_le_mul (by omega) (by omega) (by omega) (by omega)
  have s1 : (J n * rw v a 4).toInt = n * g 4 := by rw [i_mul, tn, gg] <;> (rw [tn, gg]; omega)
  have s2 : J n * rw v a 4 - rw v a 5 = J (n * g 4 - g 5) := by
    refine i_eq.mpr ?_
    rw [i_sub, s1, gg, J_toInt (by omega) (by omega)]
    · rw [s1, gg]; omega
    · rw [s1, gg]; omega
  unfold F_sg_timeOfOutput
  rw [grd_true _ hl.1]
  simp only [gi_x]
  rw [s2, sg_timeAfter hN h (by omega)]
  rfl
/-- PERIOD behind all that comes up to the end -/
theorem sgK_last {t p g : Nat → Int} {u : Int} (hJ : sgJ u t p g) (hu : 0 ≤ u) (hu2 : u ≤ 2100000) : sgK t p 6000002 g 0 = if g 9 < g 8 then p (g 8 - 1).toNat else g 0 := by
  obtain ⟨k1, u', k2, -⟩ := sgK_J hJ hu hu2 (show (6000002 : Int) ≤ 6300002 by decide)
  have hM := sgK_M hJ hu hu2 (show (6000002 : Int) ≤ 6300002 by decide) (fun h => h 8 = g 8 ∧ (if h 9 < h 8 then p (h 8 - 1).toNat else h 0) = if g 9 < g 8 then p (g 8 - 1).toNat else g 0) ⟨rfl, rfl⟩ (fun u h hJ' _ _ hM _ => by
    obtain ⟨m8, hM⟩ := hM
    unfold ev1
    by_cases hs : evS t h
    · rw [if_pos hs]
      refine ⟨m8, ?_⟩
      have e8 : smZ t p h 8 = h 8 := rfl
      have e9 : smZ t p h 9 = h 9 + 1 := rfl
      have e0 : smZ t p h 0 = p (h 9).toNat := rfl
      rw [← hM, e8, e9, e0, if_pos hs.1]
      split
      · rfl
      · have := hs.1
        rw [show (h 8 - 1).toNat = (h 9).toNat by omega]
    · rw [if_neg hs]
      exact ⟨m8, hM⟩)
  have hno : ¬ sgK t p 6000002 g 9 < sgK t p 6000002 g 8 := fun q => by
    have b := k2.2.1
    obtain ⟨c1, -⟩ := k2.2.2.1 (sgK t p 6000002 g 9).toNat (by omega)
    unfold keS at k1
    split at k1
    · omega
    · rename_i z
      have z1 : ¬ sgK t p 6000002 g 1 = -1 := fun y => z ⟨q, Or.inl y⟩
      have z2 : ¬ t (sgK t p 6000002 g 9).toNat ≤ sgK t p 6000002 g 1 := fun y => z ⟨q, Or.inr y⟩
      rw [if_neg z1] at k1
      omega
  have := hM.2
  rw [if_neg hno] at this
  exact this
theorem sg_reason {S : shp} {v : vl} {a : Nat} {t p g : Nat → Int} (h : sgR S v a t p g) : F_sg_reasonForNoEnd a S v = some (if sgK t p 6000002 g 0 = 0 then J 2 else J 1) := by
  obtain ⟨hl, hg, ht, hp, rg, rt, rp, u, hJ, h0, h1⟩ := id h
  obtain ⟨l1, l2, l3, l4, l5⟩ := id hl
  obtain ⟨b0, -⟩ := sgI_B hJ.1 ⟨h0, h1⟩
  have b := hJ.2.1
  have gg : ∀ k, (rw v a k).toInt = g k := fun k => by rw [hg]; exact zi_iz rg k
  rw [sgK_last hJ h0 h1]
  unfold F_sg_reasonForNoEnd
  rw [grd_true _ l1]
  simp only [gi_x]
  by_cases q : g 9 < g 8
  · have s1 : (rw v a 8 - J 1).toInt = (((g 8 - 1).toNat : Nat) : Int) := by
      rw [i_sub, gg, tJ]
      · omega
      · rw [gg, tJ]; omega
      · rw [gg, tJ]; omega
    obtain ⟨-, c2, -⟩ := hJ.2.2.1 (g 8 - 1).toNat (by omega)
    have gp : (rw v (a + 2) (g 8 - 1).toNat).toInt = p (g 8 - 1).toNat := by rw [hp]; exact zi_iz rp _
    rw [if_pos (i_lt.mpr (by rw [gg, gg]; exact q)), l5, if_pos q]
    simp only [Option.bind_some]
    rw [grd_true _ l3, grd_true _ (vin_of l3 s1 (by omega))]
    simp only [lt_def, clampT s1]
    by_cases z : p (g 8 - 1).toNat = 0
    · rw [if_neg (fun y => by have := i_lt.mp y; rw [gp, tJ] at this; omega), if_pos z]
    · rw [if_pos (i_lt.mpr (by rw [gp, tJ]; omega)), if_neg z]
  · rw [if_neg (fun y => q (by have := i_lt.mp y; rw [gg, gg] at this; exact this)), if_neg q]
    by_cases z : g 0 = 0
    · rw [if_neg (fun y => by have := i_lt.mp y; rw [gg, tJ] at this; omega), if_pos z]
    · rw [if_pos (i_lt.mpr (by rw [gg, tJ]; omega)), if_neg z]
end SIGNAL2
