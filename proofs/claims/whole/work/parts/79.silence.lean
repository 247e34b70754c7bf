/-! The longest silence. -/
section SILENCE
def gpF (t p : Nat → Int) (E : Int) : Nat → (Nat → Int) → Int → Int → Int
  | 0, _, L, G => maxZ G (E - L)
  | n + 1, g, L, G => if 3 * E + 2 < keS t g then maxZ G (E - L) else if evS t g then gpF t p E n (ev1 t p g) L G else gpF t p E n (ev1 t p g) (g 1) (maxZ G (g 1 - L))
def gpZ (t p : Nat → Int) (E : Int) (g : Nat → Int) (L G : Int) : Int := gpF t p E (3 * E + 4 - keS t g).toNat g L G
theorem gpF_eq {t p : Nat → Int} {E : Int} (hE : E ≤ 2100000) : ∀ (n m : Nat) (L G u : Int) (g : Nat → Int), sgJ u t p g → 0 ≤ u → 3 * E + 3 - keS t g < n → 3 * E + 3 - keS t g < m → gpF t p E n g L G = gpF t p E m g L G
  | 0, 0, L, G, u, g, _, _, _, _ => rfl
  | 0, m + 1, L, G, u, g, _, _, h, _ => by
    show maxZ G (E - L) = (if _ then _ else _)
    rw [if_pos (by omega)]
  | n + 1, 0, L, G, u, g, _, _, _, h => by
    show (if _ then _ else _) = maxZ G (E - L)
    rw [if_pos (by omega)]
  | n + 1, m + 1, L, G, u, g, hJ, hu, h1, h2 => by
    show (if _ then _ else _) = (if _ then _ else _)
    by_cases q : 3 * E + 2 < keS t g
    · rw [if_pos q, if_pos q]
    · obtain ⟨u', k1, k2, k3, k4, k5, -⟩ := ev1_J hJ hu (show keS t g ≤ 6300002 by omega)
      rw [if_neg q, if_neg q]
      have r := fun L G => gpF_eq hE n m L G u' _ k1 (by omega) (by omega) (by omega)
      split
      · exact r _ _
      · exact r _ _
theorem gp_0 {t p g : Nat → Int} {E L G : Int} (h : 3 * E + 2 < keS t g) : gpZ t p E g L G = maxZ G (E - L) := by
  unfold gpZ
  cases hn : (3 * E + 4 - keS t g).toNat with
  | zero => rfl
  | succ n => show (if _ then _ else _) = _; rw [if_pos h]
theorem gp_1 {t p g : Nat → Int} {E L G u : Int} (hE : E ≤ 2100000) (hJ : sgJ u t p g) (hu : 0 ≤ u) (h : keS t g ≤ 3 * E + 2) : gpZ t p E g L G = if evS t g then gpZ t p E (ev1 t p g) L G else gpZ t p E (ev1 t p g) (g 1) (maxZ G (g 1 - L)) := by
  obtain ⟨u', k1, k2, k3, k4, k5, -⟩ := ev1_J hJ hu (show keS t g ≤ 6300002 by omega)
  have e : (3 * E + 4 - keS t g).toNat = (3 * E + 3 - keS t g).toNat + 1 := by omega
  have r : ∀ L G, gpF t p E (3 * E + 3 - keS t g).toNat (ev1 t p g) L G = gpZ t p E (ev1 t p g) L G := fun L G => gpF_eq hE _ _ L G u' _ k1 (by omega) (by omega) (by omega)
  have h0 : gpZ t p E g L G = gpF t p E ((3 * E + 3 - keS t g).toNat + 1) g L G := by unfold gpZ; rw [e]
  rw [h0, ← r, ← r]
  show (if _ then _ else _) = _
  rw [if_neg (by omega)]
theorem gpF_ov (t p w : Nat → Int) {E : Int} : ∀ (n : Nat) (L G : Int) (g : Nat → Int), gpF t p E n (ov 10 g w) L G = gpF t p E n g L G
  | 0, _, _, _ => rfl
  | n + 1, L, G, g => by
    show (if 3 * E + 2 < keS t g then maxZ G (E - L) else if evS t g then gpF t p E n (ev1 t p (ov 10 g w)) L G else gpF t p E n (ev1 t p (ov 10 g w)) (g 1) (maxZ G (g 1 - L))) = (if _ then _ else _)
    rw [ev1_ov, gpF_ov t p w n, gpF_ov t p w n]
theorem gpZ_ov (t p g w : Nat → Int) {E L G : Int} : gpZ t p E (ov 10 g w) L G = gpZ t p E g L G := gpF_ov t p w _ L G g
theorem gpF_congr {t p t' p' : Nat → Int} {E : Int} : ∀ (n : Nat) (L G : Int) (g : Nat → Int), 0 ≤ g 9 → (∀ i : Nat, (i : Int) < g 8 → t i = t' i ∧ p i = p' i) → gpF t p E n g L G = gpF t' p' E n g L G
  | 0, L, G, g, _, _ => rfl
  | n + 1, L, G, g, h9, h => by
    obtain ⟨e1, e2, e3⟩ := evS_congr h9 h
    show (if _ then _ else _) = (if _ then _ else _)
    rw [← e2, ← e3]
    have h9' : 0 ≤ ev1 t p g 9 := by
      unfold ev1
      split
      · show 0 ≤ g 9 + 1; omega
      · exact h9
    have h8 : ev1 t p g 8 = g 8 := by unfold ev1; split <;> rfl
    have r := fun L G => gpF_congr n L G (ev1 t p g) h9' (fun i hi => h i (by rw [h8] at hi; exact hi)) (E := E)
    by_cases q : 3 * E + 2 < keS t g
    · rw [if_pos q, if_pos q]
    · rw [if_neg q, if_neg q]
      by_cases q2 : evS t g
      · rw [if_pos q2, if_pos (e1.mp q2)]; exact r _ _
      · rw [if_neg q2, if_neg (fun z => q2 (e1.mpr z))]
        exact r _ _
theorem gpZ_congr {t p t' p' g : Nat → Int} {E L G : Int} (h9 : 0 ≤ g 9) (h : ∀ i : Nat, (i : Int) < g 8 → t i = t' i ∧ p i = p' i) : gpZ t p E g L G = gpZ t' p' E g L G := by
  unfold gpZ
  rw [(evS_congr h9 h).2.1]
  exact gpF_congr _ L G g h9 h
theorem maxZ_nn {x y : Int} (h : 0 ≤ x) : 0 ≤ maxZ x y := by unfold maxZ; split <;> omega
theorem maxZ_0 {x : Int} (h : 0 ≤ x) : maxZ x 0 = x := by unfold maxZ; split <;> omega
/-- a run of edges -/
theorem gp_run {t p : Nat → Int} {B E : Int} (hBE : B ≤ E) (hE : E ≤ 2100000) : ∀ (n : Nat) (u L G : Int) (g : Nat → Int), sgJ u t p g → 0 ≤ u → (g 9 < g 8 → B < t (g 9).toNat) → edN B g = ((n + 1 : Nat) : Int) → 0 ≤ G → gpZ t p E g L G = gpZ t p E (edE B g) (g 1 + (n : Int) * g 0) (maxZ (maxZ G (g 1 - L)) (if n = 0 then 0 else g 0))
  | n, u, L, G, g, hJ, hu, hs, hn, hG => by
    obtain ⟨c1, c2, c3⟩ := edN_pos (show 0 < edN B g by omega)
    have c4 := (hJ.1.2.2.1 c3).1
    have ns : ¬ evS t g := fun q => by have := q.2; have := hs q.1; omega
    have hk3 : keS t g = 3 * g 1 + 2 := by unfold keS; rw [if_neg ns, if_neg c1]
    obtain ⟨u', k1, k2, k3, k4, -⟩ := ev1_J hJ hu (show keS t g ≤ 6300002 by omega)
    have e : ev1 t p g = egZ g := if_neg ns
    rw [e] at k1
    have hn' : edN B (egZ g) = n := by have := edN_step c3 (by omega) c2; omega
    have e1 : egZ g 1 = g 1 + g 0 := rfl
    have e0 : egZ g 0 = g 0 := rfl
    have hG1 := maxZ_nn (x := G) (y := g 1 - L) hG
    rw [gp_1 hE hJ hu (by omega), if_neg ns, e, edE_step c3 (by omega) c2]
    cases n with
    | zero =>
      rw [edE_n0 (by omega), if_pos rfl, maxZ_0 hG1]
      congr 1
      omega
    | succ n =>
      rw [gp_run hBE hE n u' (g 1) (maxZ G (g 1 - L)) (egZ g) k1 (by omega) hs hn' hG1, e1, e0, if_neg (show ¬ n + 1 = 0 by omega)]
      have em : maxZ (maxZ (maxZ G (g 1 - L)) (g 1 + g 0 - g 1)) (if n = 0 then 0 else g 0) = maxZ (maxZ G (g 1 - L)) (g 0) := by
        rw [show g 1 + g 0 - g 1 = g 0 by omega]
        unfold maxZ
        repeat' split
        all_goals omega
      rw [em]
      congr 1
      rw [show ((n + 1 : Nat) : Int) = (n : Int) + 1 by omega, Int.add_mul, Int.one_mul]
      omega
theorem ed_after {t p g : Nat → Int} {u B : Int} (hJ : sgJ u t p g) (hu : 0 ≤ u) (hu2 : u ≤ 2100000) (hB : B ≤ 2100000) (hs : g 9 < g 8 → B < t (g 9).toNat) : (edE B g 1 = -1 ∨ B < edE B g 1) ∧ edE B g 9 = g 9 ∧ edE B g 8 = g 8 ∧ ∃ u', sgJ u' t p (edE B g) ∧ 0 ≤ u' ∧ u' ≤ 2100000 := by
  obtain ⟨hI, b, c, d⟩ := id hJ
  obtain ⟨e8, e9⟩ := egN_89 (edN B g).toNat g
  have e8' : edE B g 8 = g 8 := e8
  have e9' : edE B g 9 = g 9 := e9
  by_cases q : B ≤ u
  · rw [edE_0 hI q]
    refine ⟨?_, rfl, rfl, u, hJ, hu, hu2⟩
    by_cases z : 0 < g 0
    · have := hI.2.2.1 z; omega
    · have := hI.2.1 (by have := hI.1; omega); omega
  · obtain ⟨k1, k2, k3⟩ := edE_I hI hu (show u ≤ B by omega) hB
    refine ⟨?_, e9', e8', B, ⟨k1, by rw [e9', e8']; exact b, by rw [e8']; exact c, fun i h1 h2 => ?_⟩, by omega, hB⟩
    · by_cases z : 0 < edE B g 0
      · have := k1.2.2.1 z; omega
      · have := k1.2.1 (by have := k1.1; omega); omega
    · rw [e9'] at h1
      rw [e8'] at h2
      by_cases z : (g 9).toNat = i
      · have := hs (by omega)
        rw [← z]; omega
      · have h3 := (c i h2).2.2 (g 9).toNat (by omega)
        have h4 := hs (by omega)
        omega
variable {S : shp} {v : vl} {a b m N q : Nat} {h c g t p X : Nat → Int} {M : Nat → Nat → Int} {sv : Option sta} {ps : List sta} {re ca ch : Int}
theorem sg_gap_loop {E G8 : Int} (hE : 0 ≤ E ∧ E ≤ 2100000) (hl : sgL S a) (h8 : rw v a 8 = J G8) (ht : rw v (a + 1) = iz t) (hp : rw v (a + 2) = iz p) (rt : rB t) (rp : rB p) : ∀ (n m : Nat) (u L G : Int) (h : Nat → Int), sgJ u t p h → 0 ≤ u → u ≤ 2100000 → rB h → h 8 = G8 → G8 - h 9 = m → m < n → 0 ≤ L ∧ L ≤ 2100000 → 0 ≤ G ∧ G ≤ 2100000 →
    K_sg_longestGap_23 N n S v a (J E) (J G) (J L) (J (h 1)) (J (h 0)) (J (h 9)) = some (J (gpZ t p E h L G))
  | 0, m, u, L, G, h, _, _, _, _, _, _, hn, _, _ => absurd hn (Nat.not_lt_zero _)
  | n + 1, m, u, L, G, h, hJ, hu, hu2, hr, e8, hm, hn, hL, hG => by
    obtain ⟨hI, b, c, d⟩ := id hJ
    obtain ⟨l1, l2, l3, l4, l5⟩ := id hl
    obtain ⟨b0, b1, -⟩ := sgI_B hI ⟨hu, hu2⟩
    have t9 : (J (h 9)).toInt = h 9 := J_toInt (by omega) (by omega)
    have th1 : (J (h 1)).toInt = h 1 := J_toInt (by omega) (by omega)
    have th0 : (J (h 0)).toInt = h 0 := J_toInt (by omega) (by omega)
    have e9 : (((h 9).toNat : Nat) : Int) = h 9 := by omega
    have t9' : (J (h 9)).toInt = (((h 9).toNat : Nat) : Int) := by rw [t9, e9]
    -- the second half of a step
    have half : ∀ (B L G : Int), -1 ≤ B → B ≤ E → (h 9 < h 8 → B = (if t (h 9).toNat - 1 ≤ E then t (h 9).toNat - 1 else E)) → (¬ h 9 < h 8 → B = E) → 0 ≤ L ∧ L ≤ 2100000 → 0 ≤ G ∧ G ≤ 2100000 → K_sg_longestGap_115 N (K_sg_longestGap_23 N n S v) S v a (J E) (J G) (J L) (J (h 9)) = some (J (gpZ t p E (edE B h) L G)) := by
      intro B L G hB1 hBE hB hB' hL hG
      have hBt : h 9 < h 8 → B < t (h 9).toNat := fun z => by have := hB z; split at this <;> omega
      obtain ⟨a1, a9, a8, u', aJ, au, au2⟩ := ed_after hJ hu hu2 (show B ≤ 2100000 by omega) hBt
      have fin : 3 * E + 2 < keS t (edE B h) → F_ma_max (J G) (J E - J L) S v = some (J (gpZ t p E (edE B h) L G)) := fun z => by
        rw [← J_sub, ma_maxJ (by omega) (by omega), gp_0 z]
      unfold K_sg_longestGap_115
      rw [grd_true _ l1, gi_rw, h8]
      by_cases q : h 9 < h 8
      · obtain ⟨c1, c2, -⟩ := c (h 9).toNat (by omega)
        have gt : rw v (a + 1) (h 9).toNat = J (t (h 9).toNat) := by rw [ht]; rfl
        have gp : rw v (a + 2) (h 9).toNat = J (p (h 9).toNat) := by rw [hp]; rfl
        rw [if_pos ((J_lt (by omega) (by omega)).mpr (by omega)), l4]
        simp only [Option.bind_some]
        rw [grd_true _ l2, grd_true _ (vin_of l2 t9' (by omega))]
        simp only [clampT t9', gi_x, gt]
        by_cases y : E < t (h 9).toNat
        · have eB : B = E := by have := hB q; split at this <;> omega
          have kk : 3 * E + 2 < keS t (edE B h) := by
            unfold keS
            split
            · rw [a9]; omega
            · split <;> omega
          rw [if_pos ((J_lt (by omega) (by omega)).mpr y), fin kk]
          rfl
        · have eB : B = t (h 9).toNat - 1 := by have := hB q; split at this <;> omega
          obtain ⟨jJ, j1, j2, j3⟩ := edE_J hJ hu hu2 q hr
          have hs : evS t (edE B h) := ⟨by omega, by rw [a9]; omega⟩
          have hk3 : keS t (edE B h) = 3 * t (h 9).toNat := by unfold keS; rw [if_pos hs, a9]
          have ee : ev1 t p (edE B h) = smZ t p (edE B h) := if_pos hs
          rw [if_neg (fun z => y ((J_lt (by omega) (by omega)).mp z))]
          have j9 : J (h 9) = J (((h 9).toNat : Nat) : Int) := by rw [e9]
          rw [j9, sg_firstEdge hl ht hp rt rp c (by omega) (by omega), ← j9]
          simp only [Option.bind_some]
          rw [l5]
          simp only [Option.bind_some]
          rw [grd_true _ l3, grd_true _ (vin_of l3 t9' (by omega))]
          simp only [lt_def, clampT t9', gi_x, gp]
          rw [gp_1 (u := u') hE.2 aJ au (by omega), if_pos hs, ee, eB]
          have g9' : smZ t p (edE (t (h 9).toNat - 1) h) 9 = h 9 + 1 := by show edE (t (h 9).toNat - 1) h 9 + 1 = _; rw [j1]
          have g8' : smZ t p (edE (t (h 9).toNat - 1) h) 8 = h 8 := j2
          have g0' : smZ t p (edE (t (h 9).toNat - 1) h) 0 = p (h 9).toNat := by show p (edE (t (h 9).toNat - 1) h 9).toNat = _; rw [j1]
          have g1' : smZ t p (edE (t (h 9).toNat - 1) h) 1 = if 0 < p (h 9).toNat then t (h 9).toNat + p (h 9).toNat else -1 := by
            show (if 0 < p (edE (t (h 9).toNat - 1) h 9).toNat then t (edE (t (h 9).toNat - 1) h 9).toNat + p (edE (t (h 9).toNat - 1) h 9).toNat else -1) = _
            rw [j1]
          have hrB : rB (smZ t p (edE (t (h 9).toNat - 1) h)) := sgJ_rB jJ (by omega) (by omega) j3 (fun k hk => by
            match k with
            | 0 => omega
            | 1 => omega
            | 2 => omega
            | 3 => omega
            | 4 => omega
            | 5 => omega
            | 6 => rfl
            | 7 => rfl
            | 8 => omega
            | 9 => omega
            | j + 10 => rfl)
          have := sg_gap_loop hE hl h8 ht hp rt rp n (m - 1) (t (h 9).toNat) L G _ jJ (by omega) (by omega) hrB (by omega) (by omega) (by omega) hL hG
          rw [g9', g0', g1', J_add] at this
          exact this
      · have eB := hB' q
        have kk : 3 * E + 2 < keS t (edE B h) := by
          have ns : ¬ evS t (edE B h) := fun z => q (by have := z.1; omega)
          unfold keS
          rw [if_neg ns]
          split <;> omega
        rw [if_neg (fun z => q (by have := (J_lt (by omega) (by omega)).mp z; omega)), fin kk]
        rfl
    -- the first half
    have first : ∀ B : Int, -1 ≤ B → B ≤ E → (h 9 < h 8 → B = (if t (h 9).toNat - 1 ≤ E then t (h 9).toNat - 1 else E)) → (¬ h 9 < h 8 → B = E) → K_sg_longestGap_58 N (K_sg_longestGap_23 N n S v) S v a (J E) (J G) (J L) (J (h 1)) (J (h 0)) (J (h 9)) (J B) = some (J (gpZ t p E h L G)) := by
      intro B hB1 hBE hB hB'
      have hBt : h 9 < h 8 → B < t (h 9).toNat := fun z => by have := hB z; split at this <;> omega
      have tB : (J B).toInt = B := J_toInt (by omega) (by omega)
      have hnn := edN_nn B h
      have hle := (edN_le (T := B) (g := h) (by omega) (by omega)).1
      have eN : edF B (h 1) (h 0) = edN B h := rfl
      unfold K_sg_longestGap_58
      rw [sg_edges tB th1 th0 (by omega) (by omega), eN]
      simp only [Option.bind_some]
      by_cases z : 0 < edN B h
      · obtain ⟨c1, c2, c3⟩ := edN_pos z
        obtain ⟨x1, x2⟩ := ed_val (B := B) (k := edN B h) (Int.le_refl _) (by omega)
        have hm1 : 0 ≤ maxZ G (h 1 - L) ∧ maxZ G (h 1 - L) ≤ 2100000 := by unfold maxZ; split <;> omega
        have run := gp_run hBE hE.2 ((edN B h).toNat - 1) u L G h hJ hu hBt (by omega) hG.1
        rw [show (((edN B h).toNat - 1 : Nat) : Int) = edN B h - 1 by omega] at run
        rw [if_pos ((J_lt (by decide) (by omega)).mpr z), ← J_sub, ma_maxJ (by omega) (by omega)]
        simp only [Option.bind_some]
        rw [← J_sub, ← J_mul, ← J_add, run]
        by_cases y : 1 < edN B h
        · have hm2 : 0 ≤ maxZ (maxZ G (h 1 - L)) (h 0) ∧ maxZ (maxZ G (h 1 - L)) (h 0) ≤ 2100000 := by
            have : h 0 ≤ 2100000 := by
              have := ed_val (B := B) (k := 2) (g := h) (by omega) (by omega)
              omega
            unfold maxZ at hm1 ⊢
            split <;> split at hm1 <;> omega
          rw [if_pos ((J_lt (by decide) (by omega)).mpr y), ma_maxJ (by omega) (by omega), if_neg (show ¬ (edN B h).toNat - 1 = 0 by omega)]
          simp only [Option.bind_some]
          exact half B _ _ hB1 hBE hB hB' (by omega) hm2
        · rw [if_neg (fun w => y ((J_lt (by decide) (by omega)).mp w)), ma_maxJ (by omega) (by decide), if_pos (show (edN B h).toNat - 1 = 0 by omega)]
          simp only [Option.bind_some]
          exact half B _ _ hB1 hBE hB hB' (by omega) (by rw [maxZ_0 hm1.1]; exact hm1)
      · rw [if_neg (fun w => z ((J_lt (by decide) (by omega)).mp w))]
        have := half B L G hB1 hBE hB hB' hL hG
        rw [edE_n0 (by omega)] at this
        exact this
    show Y_sg_longestGap_23 N (K_sg_longestGap_23 N n S v) S v a (J E) (J G) (J L) (J (h 1)) (J (h 0)) (J (h 9)) = _
    unfold Y_sg_longestGap_23
    rw [grd_true _ l1, gi_rw, h8, if_neg (fun z => by have := (J_lt (by omega) (by omega)).mp z; omega)]
    by_cases q : h 9 < h 8
    · obtain ⟨c1, c2, -⟩ := c (h 9).toNat (by omega)
      have gt : rw v (a + 1) (h 9).toNat = J (t (h 9).toNat) := by rw [ht]; rfl
      rw [if_pos ((J_lt (by omega) (by omega)).mpr (by omega)), l4]
      simp only [Option.bind_some]
      rw [grd_true _ l2, grd_true _ (vin_of l2 t9' (by omega))]
      simp only [clampT t9', gi_x, gt]
      rw [← J_sub, ma_minJ (by omega) (by omega)]
      simp only [Option.bind_some]
      refine first _ ?_ ?_ (fun _ => ?_) (fun z => absurd q z)
      · unfold minZ; split <;> omega
      · unfold minZ; split <;> omega
      · unfold minZ
        split <;> split <;> omega
    · rw [if_neg (fun z => q (by have := (J_lt (by omega) (by omega)).mp z; omega))]
      exact first E (by omega) (Int.le_refl _) (fun z => absurd z q) (fun _ => rfl)
theorem sgW_gap {L E : Int} (hN : 100 ≤ N) (hW : sgW S v a t p g) (hS : sgV t p g) (hL : 0 ≤ L ∧ L ≤ 2100000) (hE : 0 ≤ E ∧ E ≤ 2100000) : F_sg_longestGap N a (J L) (J E) S v = some (J (gpZ t p E g L 0)) := by
  obtain ⟨t', p', w, hR, hag⟩ := sgW_R hW hS
  have b9 := hS.1.choose_spec.1.2.1
  obtain ⟨hl, hg, ht, hp, rg, rt, rp, u, hJ, h0, h1⟩ := hR
  have b := hJ.2.1
  unfold F_sg_longestGap
  rw [grd_true _ hl.1]
  simp only [gi_x, hg]
  have := sg_gap_loop (N := N) hE hl (by rw [hg]; rfl) ht hp rt rp N ((ov 10 g w) 8 - (ov 10 g w) 9).toNat u L 0 (ov 10 g w) hJ h0 h1 rg rfl (by omega) (by omega) hL (by decide)
  rw [gpZ_ov, ← gpZ_congr b9.1 hag] at this
  exact this
theorem gc_longestSilence {n : Int} (hN : 7000000 ≤ N) (hR : cR S v a (h, c, g, t, p, M) sv ps re ca ch q) (hn : -2147483648 ≤ n ∧ n < 2147483648) : F_gc_longestSilence N a (J n) S v = some (rC (fun _ => 0) (rgO 1 100000 n (gpZ t p (h 0 + n) g (h 0) 0))) := by
  obtain ⟨k0, g5, n0, r6, n1, r7, n2, hh, hc, hg⟩ := cR_now hR
  have hs := cR_V hR
  have hv0 := hs.1.1
  unfold F_gc_longestSilence rgO
  rw [gc_within hn (by decide) (by decide)]
  by_cases z : 1 ≤ n ∧ n ≤ 100000
  · rw [if_pos z, if_pos z, bx_r, grd_true _ k0, g5]
    simp only [Option.bind_some]
    rw [grd_true _ n0, r7]
    simp only [Option.bind_some]
    rw [grd_true _ n2, gi_rw, hh 0 (by decide), ← J_add]
    have := sgW_gap (N := N) (L := h 0) (E := h 0 + n) (by omega) (cR_W hR) hs.2.2.1 (by omega) (by omega)
    rw [show F_sg_longestGap N (a + 11 + 2) (J (h 0)) (J (h 0 + n)) S v = _ from this]
    rfl
  · rw [if_neg z, if_neg z, bx_l]
    rfl
theorem gm_silLoop {E : Int} (hN : 7000000 ≤ N) (hl : mdL S m) (hE : 0 ≤ E ∧ E ≤ 2100000) : ∀ (n : Nat) (v : vl) (T L G : Int) (c g : Nat → Int), rw v (m + 1) = iz (mk X T c g) → mdI X T c g → 3 * E + 3 - keS (mt X) g < n → 3 * E + 3 - (3 * c 4 + 1) < n → 0 ≤ L ∧ L ≤ 2100000 → 0 ≤ G ∧ G ≤ 2100000 →
    BK m v (gpZ (mt X) (mp X) E g L G) ((F_gm_comes m (J E) S v).bind fun (x12, w13) => K_gm_longestSilence_61 N (n + 1) S w13 m (J E) (J L) (J G) x12)
  | n, v, T, L, G, c, g, hw, hI, h1, h2, hL, hG => by
    obtain ⟨⟨u, hJ, q0, q1⟩, hcI, -⟩ := id hI
    rcases three (t := mt X) (g := g) (L := E) (z := c 4) with ⟨r1, r2⟩ | ⟨r1, r2⟩ | ⟨r1, r2⟩
    · rw [gm_comes0 hl hw hI hE r1 r2, gp_0 r1]
      simp only [Option.bind_some]
      show BK m v _ (Y_gm_longestSilence_61 N (K_gm_longestSilence_61 N n S) S v m (J E) (J L) (J G) (J 0))
      unfold Y_gm_longestSilence_61
      rw [if_pos rfl, ← J_sub, ma_maxJ (by omega) (by omega)]
      simp only [Option.bind_some]
      rw [grd_true _ hl.1]
      exact BK_bind (BK_back hN hl)
    · obtain ⟨s1, s2⟩ := mdI_ev hI (show keS (mt X) g ≤ 6300002 by omega)
      rw [gm_comesS hl hw hI hE r1 r2, gp_1 hE.2 hJ q0 r1]
      simp only [Option.bind_some]
      cases n with
      | zero => omega
      | succ n =>
        refine BK_wr1 (R := iz (mk X (evT (mt X) g) c (ev1 (mt X) (mp X) g))) ?_
        show BK m _ _ (Y_gm_longestSilence_61 N (K_gm_longestSilence_61 N (n + 1) S) S _ m (J E) (J L) (J G) (J (evK (mt X) g)))
        unfold Y_gm_longestSilence_61
        rw [if_neg (evK_ne (mt X) g).1]
        by_cases hs : evS (mt X) g
        · have eK : evK (mt X) g = 1 := by unfold evK; rw [if_pos hs]
          rw [eK, if_neg (show ¬ J 1 = J 3 by decide), if_neg (show ¬ J 1 = J 4 by decide), if_pos hs, grd_true _ hl.1]
          exact gm_silLoop hN hl hE n _ _ L G c _ rw_wr s1 (by omega) (by omega) hL hG
        · obtain ⟨k0, k1, k2, k3⟩ : 0 < g 0 ∧ u < g 1 ∧ g 1 ≤ 2100000 ∧ True := by
            obtain ⟨u', -, -, -, -, -, k6, -⟩ := ev1_J hJ q0 (show keS (mt X) g ≤ 6300002 by omega)
            have := k6 hs
            exact ⟨this.1, this.2.1, this.2.2.1, trivial⟩
          have eT' : evT (mt X) g = g 1 := by unfold evT; rw [if_neg hs]
          have hm1 : 0 ≤ maxZ G (g 1 - L) ∧ maxZ G (g 1 - L) ≤ 2100000 := by unfold maxZ; split <;> omega
          have r0 : rw (wr v (m + 1) (iz (mk X (evT (mt X) g) c (ev1 (mt X) (mp X) g)))) (m + 1) 0 = J (g 1) := by rw [rw_wr, ← eT']; rfl
          have k78 : K_gm_longestSilence_78 N (K_gm_longestSilence_61 N (n + 1) S) S (wr v (m + 1) (iz (mk X (evT (mt X) g) c (ev1 (mt X) (mp X) g)))) m (J E) (J L) (J G) = (F_gm_comes m (J E) S (wr v (m + 1) (iz (mk X (evT (mt X) g) c (ev1 (mt X) (mp X) g))))).bind fun (x23, w24) => K_gm_longestSilence_61 N (n + 1) S w24 m (J E) (J (g 1)) (J (maxZ G (g 1 - L))) x23 := by
            unfold K_gm_longestSilence_78
            rw [grd_true _ hl.1, hl.2.1]
            simp only [Option.bind_some]
            rw [grd_true _ hl.2.2.1, gi_rw, r0, ← J_sub, ma_maxJ (by omega) (by omega)]
            rfl
          have fin := gm_silLoop hN hl hE n (wr v (m + 1) (iz (mk X (evT (mt X) g) c (ev1 (mt X) (mp X) g)))) (evT (mt X) g) (g 1) (maxZ G (g 1 - L)) c _ rw_wr s1 (by omega) (by omega) (by omega) hm1
          rw [if_neg hs]
          by_cases y : g 5 + 1 < g 4
          · have eK : evK (mt X) g = 3 := by unfold evK; rw [if_neg hs, if_pos y]
            rw [eK, if_pos rfl, k78]
            exact fin
          · have eK : evK (mt X) g = 4 := by unfold evK; rw [if_neg hs, if_neg y]
            rw [eK, if_neg (show ¬ J 4 = J 3 by decide), if_pos rfl, k78]
            exact fin
    · rw [gm_comesC hl hw hI hE r1 r2]
      have kk := tkZ_inv hcI
      simp only [Option.bind_some]
      cases n with
      | zero => omega
      | succ n =>
        refine BK_wr1 (R := iz (mk X (c 4) (tkZ c) g)) ?_
        show BK m _ _ (Y_gm_longestSilence_61 N (K_gm_longestSilence_61 N (n + 1) S) S _ m (J E) (J L) (J G) (J 2))
        unfold Y_gm_longestSilence_61
        rw [if_neg (show ¬ J 2 = J 0 by decide), if_neg (show ¬ J 2 = J 3 by decide), if_neg (show ¬ J 2 = J 4 by decide), grd_true _ hl.1]
        exact gm_silLoop hN hl hE n _ _ L G (tkZ c) g rw_wr (mdI_ck hI (by omega)) (by omega) (by omega) hL hG
theorem gm_longestSilence {n : Int} (hN : 7000000 ≤ N) (hR : dR S v m (h, c, g, t, p, M) sv ps re ca ch) (hs : stV h c g t p M) (hn : -2147483648 ≤ n ∧ n < 2147483648) :
    QM (F_gm_longestSilence N m (J n) S v) (rgO 1 100000 n (gpZ t p (h 0 + n) g (h 0) 0)) (fun v' => mqt m v v' (oThr (rgO 1 100000 n (gpZ t p (h 0 + n) g (h 0) 0)))) := by
  obtain ⟨hl, h1, -⟩ := hR
  have n1 : ¬ J 1 = J 0 := by decide
  have h9 := (stV_8 hs).1
  have hv0 := hs.1.1
  unfold F_gm_longestSilence
  rw [grd_true _ hl.1]
  simp only [lt_def, si_th]
  rw [gm_inRange hn (by decide) (by decide)]
  simp only [Option.bind_some]
  unfold rgO K_gm_longestSilence_22
  by_cases z : 1 ≤ n ∧ n ≤ 100000
  · rw [if_pos z, if_neg n1, if_pos z, grd_true _ hl.1, gm_fails0]
    simp only [Option.bind_some, if_true]
    rw [grd_true _ hl.1, gm_thinks (by omega) hl]
    simp only [Option.bind_some]
    rw [hl.2.1]
    simp only [Option.bind_some]
    obtain ⟨X, x0, x5, x6, x7, hag, hI⟩ := thinkX (v := th v m 0) (m := m) (h := h) (c := c) (g := g) (t := t) (p := p) (M := M) (th_rowM h1) hs
    have r0 : rw (wr (th v m 0) (m + 3) (cpR (rw (th v m 0) (m + 1)) (rw (th v m 0) (m + 3)) 0 0 199)) (m + 1) 0 = J (h 0) := by rw [x0]; rfl
    have k0 := keS_nn hI
    have k4 := hI.2.1.2.2.2.2.1
    obtain ⟨f, rfl⟩ : ∃ f, N = f + 1 := ⟨N - 1, by omega⟩
    have := gm_silLoop (N := f + 1) (E := h 0 + n) hN hl (by omega) f _ _ (h 0) 0 c g x0 hI (by omega) (by omega) (by omega) (by decide)
    rw [grd_true _ hl.2.2.1, gi_rw, r0, ← J_add, gpZ_congr h9 hag]
    obtain ⟨v', e1, e2⟩ := BK_mq this
    exact ⟨v', e1, mqt_mq e2⟩
  · rw [if_neg z, if_pos rfl, if_neg z, grd_true _ hl.1, gm_fails1 hl]
    simp only [Option.bind_some, n1, if_false]
    rw [th_th]
    exact ⟨_, rfl, mqt_th⟩
end SILENCE
