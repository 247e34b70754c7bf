/-! The law's ways through what comes: goes, waits, counts. -/
section LAWWAYS
theorem evK_pos (t g : Nat → Int) : J 0 < J (evK t g) := by
  unfold evK
  split
  · decide
  · split <;> decide
/-- what a way leaves: everything but the law's own row; of that, the settings, and what lies from 21 on below e -/
def fle (o e : Nat) (v v' : vl) : Prop := (∀ x, x ≠ o → rw v' x = rw v x ∧ v'.2 x = v.2 x) ∧ ∀ k, (k = 10 ∨ k = 11 ∨ k = 12 ∨ (21 ≤ k ∧ k < e)) → rw v' o k = rw v o k
theorem fle_of {o e : Nat} {v v' : vl} (h : flw o v v') : fle o e v v' := ⟨h.1, fun k hk => h.2 k (by omega)⟩
theorem fle_tr {o e : Nat} {u v w : vl} (h1 : fle o e u v) (h2 : fle o e v w) : fle o e u w :=
  ⟨fun x hx => ⟨(h2.1 x hx).1.trans (h1.1 x hx).1, (h2.1 x hx).2.trans (h1.1 x hx).2⟩, fun k hk => (h2.2 k hk).trans (h1.2 k hk)⟩
theorem fle_wr {o e : Nat} {v : vl} {f : Nat → Int32} (h : ∀ k, (k = 10 ∨ k = 11 ∨ k = 12 ∨ (21 ≤ k ∧ k < e)) → f k = rw v o k) : fle o e v (wr v o f) :=
  ⟨fun x hx => ⟨rw_wr_ne hx, rfl⟩, fun k hk => by rw [rw_wr]; exact h k hk⟩
theorem fle_up {o e k : Nat} {v : vl} {x : Int32} (h : e ≤ k) (h2 : 21 ≤ k) : fle o e v (wr v o (up (rw v o) k x)) := fle_wr fun j hj => up_ne (by omega)
theorem fle_le {o e e' : Nat} {v w : vl} (h : fle o e v w) (he : e' ≤ e) : fle o e' v w := ⟨h.1, fun k hk => h.2 k (by omega)⟩
theorem lwN_up {f : Nat → Int32} {T : Int} {c g : Nat → Int} {k : Nat} {x : Int32} (h : lwN f T c g) (hk : 21 ≤ k) : lwN (up f k x) T c g := by
  obtain ⟨⟨n0, n1, n4, n5, n6, n7, n8, n9⟩, n13, n14, n15, n18, n19⟩ := h
  have e : ∀ j, j < 20 → up f k x j = f j := fun j hj => up_ne (by omega)
  exact ⟨⟨(e 0 (by decide)).trans n0, (e 1 (by decide)).trans n1, (e 4 (by decide)).trans n4, (e 5 (by decide)).trans n5, (e 6 (by decide)).trans n6, (e 7 (by decide)).trans n7, (e 8 (by decide)).trans n8, (e 9 (by decide)).trans n9⟩, (e 13 (by decide)).trans n13, (e 14 (by decide)).trans n14, (e 15 (by decide)).trans n15, (e 18 (by decide)).trans n18, (e 19 (by decide)).trans n19⟩
theorem lwR_up {v : vl} {o k : Nat} {X : Nat → Int} {T : Int} {c g : Nat → Int} {x : Int32} (h : lwR v o X T c g) (hk : 21 ≤ k) : lwR (wr v o (up (rw v o) k x)) o X T c g := by
  obtain ⟨h1, ⟨s, i, q1, q2, q3⟩, h3, h4⟩ := h
  refine ⟨by rw [rw_wr]; exact lwN_up h1 hk, ⟨s, i, ?_, ?_, q3⟩, h3, h4.1, fun j hj => ?_⟩
  · rw [rw_wr, up_ne (by omega)]; exact q1
  · rw [rw_wr, up_ne (by omega)]; exact q2
  · rw [rw_wr_ne (by omega), rw_wr_ne (by omega)]; exact h4.2 j hj
theorem lwR_T {v : vl} {o : Nat} {X : Nat → Int} {T T' : Int} {c g : Nat → Int} (h : lwR v o X T c g) : lwR (wr v o (up (rw v o) 4 (J T'))) o X T' c g := by
  obtain ⟨⟨⟨n0, n1, n4, n5, n6, n7, n8, n9⟩, n13, n14, n15, n18, n19⟩, ⟨s, i, q1, q2, q3⟩, h3, h4⟩ := h
  refine ⟨by rw [rw_wr]; exact ⟨⟨n0, n1, rfl, n5, n6, n7, n8, n9⟩, n13, n14, n15, n18, n19⟩, ⟨s, i, ?_, ?_, q3⟩, h3, h4.1, fun j hj => ?_⟩
  · rw [rw_wr]; exact q1
  · rw [rw_wr]; exact q2
  · rw [rw_wr_ne (by omega), rw_wr_ne (by omega)]; exact h4.2 j hj
variable {S : shp} {v : vl} {o N : Nat} {X : Nat → Int} {T L : Int} {c g : Nat → Int}
theorem lw_goesL (hl : lwL S o) (hL : 0 ≤ L ∧ L ≤ 2100000) : ∀ (n F : Nat) (v : vl) (T : Int) (c g : Nat → Int), n < F → lwR v o X T c g → mdI X T c g → (3 * L + 3 - keS (mt X) g).toNat + (3 * L + 3 - (3 * c 4 + 1)).toNat ≤ n →
    ∃ v', K_lw_goes_0 N F S v o (J L) = some v' ∧ lwR v' o X L (ckK L c) (sgK (mt X) (mp X) (3 * L + 2) g) ∧ fle o 21 v v'
  | n, 0, v, T, c, g, hF, _, _, _ => absurd hF (Nat.not_lt_zero _)
  | n, F + 1, v, T, c, g, hF, hR, hI, hm => by
    show ∃ v', Y_lw_goes_0 N (K_lw_goes_0 N F S) S v o (J L) = some v' ∧ _
    unfold Y_lw_goes_0
    rw [grd_true _ hl.1]
    rcases three (t := mt X) (g := g) (L := L) (z := c 4) with ⟨q1, q2⟩ | ⟨q1, q2⟩ | ⟨q1, q2⟩
    · rw [lw_comes0 hl hR hI hL q1 q2]
      simp only [Option.bind_some]
      rw [if_neg (by decide)]
      simp only [lt_def, si_wr]
      refine ⟨_, rfl, ?_, fle_wr fun k hk => up_ne (by omega)⟩
      rw [ckK_0 q2, sgK_0 q1]
      exact lwR_T hR
    · cases n with
      | zero => omega
      | succ n =>
        obtain ⟨w, e1, e2, e3⟩ := lw_comesS hl hR hI hL q1 q2
        rw [e1]
        simp only [Option.bind_some]
        rw [if_pos (evK_pos _ _)]
        simp only [lt_def, si_wr, gi_x]
        obtain ⟨r1, r2⟩ := mdI_ev hI (show keS (mt X) g ≤ 6300002 by omega)
        obtain ⟨v', f1, f2, f3⟩ := lw_goesL hl hL n F (wr w o (up (rw w o) 23 (rw w o 23 + J 1))) _ _ _ (by omega) (lwR_up e2 (by decide)) r1 (by omega)
        rw [sgK_ev' hI (by omega) q1] at f2
        exact ⟨v', f1, f2, fle_tr (fle_of e3) (fle_tr (fle_up (by decide) (by decide)) f3)⟩
    · cases n with
      | zero => omega
      | succ n =>
        obtain ⟨w, e1, e2, e3⟩ := lw_comesC hl hR hI hL q1 q2
        rw [e1]
        simp only [Option.bind_some]
        rw [if_pos (by decide)]
        simp only [lt_def, si_wr, gi_x]
        have k := tkZ_inv hI.2.1
        obtain ⟨v', f1, f2, f3⟩ := lw_goesL hl hL n F (wr w o (up (rw w o) 23 (rw w o 23 + J 1))) _ _ _ (by omega) (lwR_up e2 (by decide)) (mdI_ck hI (by omega)) (by omega)
        rw [← ckK_1 hI.2.1 q2] at f2
        exact ⟨v', f1, f2, fle_tr (fle_of e3) (fle_tr (fle_up (by decide) (by decide)) f3)⟩
theorem lw_goes (hN : 13000000 ≤ N) (hl : lwL S o) (hR : lwR v o X T c g) (hI : mdI X T c g) (hL : 0 ≤ L ∧ L ≤ 2000000) : ∃ v', F_lw_goes N o (J L) S v = some v' ∧ lwR v' o X L (ckK L c) (sgK (mt X) (mp X) (3 * L + 2) g) ∧ fle o 21 v v' := by
  have k1 := keS_nn hI
  have k2 := (c5_B hI).2.1
  exact lw_goesL (N := N) hl (by omega) (12500000 : Nat) N v T c g (by omega) hR hI (by omega)
/-- up to the next clock edge -/
theorem lw_waitsCL (hl : lwL S o) (hc : c 4 ≤ 2000000) : ∀ (n F : Nat) (v : vl) (T : Int) (g : Nat → Int), n < F → lwR v o X T c g → mdI X T c g → (6000003 - keS (mt X) g).toNat ≤ n →
    ∃ v', (F_lw_comes o (J 2000000) S v).bind (fun (x, w) => K_lw_waits_7 N F S w o (J 2) x) = some v' ∧ lwR v' o X (c 4) (tkZ c) (sgK (mt X) (mp X) (3 * c 4) g) ∧ rw v' o 21 = J (c 4) ∧ rw v' o 23 = J 0 ∧ fle o 21 v v'
  | n, 0, v, T, g, hF, _, _, _ => absurd hF (Nat.not_lt_zero _)
  | n, F + 1, v, T, g, hF, hR, hI, hm => by
    rcases three (t := mt X) (g := g) (L := 2000000) (z := c 4) with ⟨q1, q2⟩ | ⟨q1, q2⟩ | ⟨q1, q2⟩
    · omega
    · cases n with
      | zero => omega
      | succ n =>
        obtain ⟨w, e1, e2, e3⟩ := lw_comesS hl hR hI (by decide) q1 q2
        rw [e1]
        show ∃ v', Y_lw_waits_7 N (K_lw_waits_7 N F S) S w o (J 2) (J (evK (mt X) g)) = some v' ∧ _
        unfold Y_lw_waits_7
        obtain ⟨r1, r2⟩ := mdI_ev hI (show keS (mt X) g ≤ 6300002 by omega)
        rw [if_neg (evK_ne _ _).2, grd_true _ hl.1]
        obtain ⟨v', f1, f2, f3, f4, f5⟩ := lw_waitsCL hl hc n F w _ _ (by omega) e2 r1 (by omega)
        rw [sgK_ev' hI (by omega) (by omega)] at f2
        exact ⟨v', f1, f2, f3, f4, fle_tr (fle_of e3) f5⟩
    · obtain ⟨w, e1, e2, e3⟩ := lw_comesC hl hR hI (by decide) q1 q2
      rw [e1]
      show ∃ v', Y_lw_waits_7 N (K_lw_waits_7 N F S) S w o (J 2) (J 2) = some v' ∧ _
      unfold Y_lw_waits_7
      rw [if_pos rfl, grd_true _ hl.1]
      simp only [lt_def, si_wr, gi_x]
      refine ⟨_, rfl, ?_, ?_, ?_, fle_tr (fle_of e3) (fle_tr (fle_up (k := 21) (by decide) (by decide)) (fle_up (k := 23) (by decide) (by decide)))⟩
      · rw [sgK_0 (show 3 * c 4 < keS (mt X) g by omega)]
        exact lwR_up (lwR_up e2 (by decide)) (by decide)
      · rw [rw_wr, up_ne (by decide), rw_wr, up_same]
        exact e2.1.1.2.2.1
      · rw [rw_wr, up_same]
theorem lw_waitsC (hN : 13000000 ≤ N) (hl : lwL S o) (hR : lwR v o X T c g) (hI : mdI X T c g) (hc : c 4 ≤ 2000000) : ∃ v', F_lw_waits N o (J 2) S v = some v' ∧ lwR v' o X (c 4) (tkZ c) (sgK (mt X) (mp X) (3 * c 4) g) ∧ rw v' o 21 = J (c 4) ∧ rw v' o 23 = J 0 ∧ fle o 21 v v' := by
  have k1 := keS_nn hI
  unfold F_lw_waits
  rw [grd_true _ hl.1]
  exact lw_waitsCL (N := N) hl hc (12500000 : Nat) N v T g (by omega) hR hI (by omega)
theorem tkN_s (k : Nat) (c : Nat → Int) : tkN k (tkZ c) = tkN (k + 1) c := by
  have h := tkN_add 1 k c
  rw [Nat.add_comm 1 k] at h
  exact h.symm
/-- outputs within so many clock edges -/
theorem lw_countsCL (hl : lwL S o) : ∀ (n F G : Nat) (v : vl) (T q : Int) (c g : Nat → Int), n < F → G ≤ 10000 → lwR v o X T c g → mdI X T c g → rw v o 23 = J q → (∀ k, G = k + 1 → (tkN k c) 4 ≤ 2000000) → (6000003 - keS (mt X) g).toNat + (6000003 - (3 * c 4 + 1)).toNat ≤ n →
    ∃ (v' : vl) (T' : Int) (c' g' : Nat → Int), K_lw_counts_3 N F S v o (J 2) (J 4) (J (G : Int)) = some v' ∧ lwR v' o X T' c' g' ∧ rw v' o 22 = J T' ∧ rw v' o 23 = J (q + (g' 3 - g 3)) ∧ fle o 22 v v' ∧ (G = 0 → T' = T ∧ c' = c ∧ g' = g) ∧ ∀ k, G = k + 1 → T' = (tkN k c) 4 ∧ c' = tkN (k + 1) c ∧ g' = sgK (mt X) (mp X) (3 * (tkN k c) 4) g
  | n, 0, G, v, T, q, c, g, hF, _, _, _, _, _, _ => absurd hF (Nat.not_lt_zero _)
  | n, F + 1, G, v, T, q, c, g, hF, hG, hR, hI, h23, hk, hm => by
    show ∃ (v' : vl) (T' : Int) (c' g' : Nat → Int), Y_lw_counts_3 N (K_lw_counts_3 N F S) S v o (J 2) (J 4) (J (G : Int)) = some v' ∧ _
    unfold Y_lw_counts_3
    cases G with
    | zero =>
      rw [if_neg (show ¬ J 0 < J ((0 : Nat) : Int) from (by decide)), grd_true _ hl.1]
      simp only [lt_def, si_wr, gi_x]
      refine ⟨_, T, c, g, rfl, lwR_up hR (by decide), ?_, ?_, fle_up (by decide) (by decide), fun _ => ⟨rfl, rfl, rfl⟩, fun k h => by omega⟩
      · rw [rw_wr, up_same]
        exact hR.1.1.2.2.1
      · rw [rw_wr, up_ne (by decide), h23, show q + (g 3 - g 3) = q by omega]
    | succ G =>
      have hG4 := hk G rfl
      have hmono := (tkN_inv hI.2.1 G).2.2.1
      rw [if_pos ((J_lt (by decide) (by omega)).mpr (by omega)), grd_true _ hl.1]
      rcases three (t := mt X) (g := g) (L := 2000000) (z := c 4) with ⟨q1, q2⟩ | ⟨q1, q2⟩ | ⟨q1, q2⟩
      · omega
      · cases n with
        | zero => omega
        | succ n =>
          obtain ⟨w, e1, e2, e3⟩ := lw_comesS hl hR hI (by decide) q1 q2
          obtain ⟨r1, r2⟩ := mdI_ev hI (show keS (mt X) g ≤ 6300002 by omega)
          have e33 := ev1_3 hI
          have w23 : rw w o 23 = J q := (e3.2 23 (by omega)).trans h23
          rw [e1]
          simp only [Option.bind_some]
          have go : ∀ z : Int, ev1 (mt X) (mp X) g 3 = g 3 + z → ∃ (v' : vl) (T' : Int) (c' g' : Nat → Int), K_lw_counts_32 N (K_lw_counts_3 N F S) S w o (J 2) (J 4) (J ((G + 1 : Nat) : Int)) (J (evK (mt X) g)) o (gi w o 23) (J z) = some v' ∧ lwR v' o X T' c' g' ∧ rw v' o 22 = J T' ∧ rw v' o 23 = J (q + (g' 3 - g 3)) ∧ fle o 22 v v' ∧ (G + 1 = 0 → T' = T ∧ c' = c ∧ g' = g) ∧ ∀ k, G + 1 = k + 1 → T' = (tkN k c) 4 ∧ c' = tkN (k + 1) c ∧ g' = sgK (mt X) (mp X) (3 * (tkN k c) 4) g := by
            intro z hz
            unfold K_lw_counts_32
            rw [grd_true _ hl.1]
            simp only [lt_def, si_wr, gi_x]
            rw [if_neg (evK_ne _ _).2, show J ((G + 1 : Nat) : Int) - J 0 = J ((G + 1 : Nat) : Int) by rw [← J_sub, Int.sub_zero], w23, ← J_add]
            obtain ⟨v', T', c', g', f1, f2, f3, f4, f5, f6, f7⟩ := lw_countsCL hl n F (G + 1) (wr w o (up (rw w o) 23 (J (q + z)))) _ (q + z) _ _ (by omega) hG (lwR_up e2 (by decide)) r1 (by rw [rw_wr, up_same]) hk (by omega)
            refine ⟨v', T', c', g', f1, f2, f3, ?_, fle_tr (fle_of e3) (fle_tr (fle_up (by decide) (by decide)) f5), fun h => by omega, fun k h => ?_⟩
            · rw [f4, hz, show q + z + (g' 3 - (g 3 + z)) = q + (g' 3 - g 3) by omega]
            · obtain ⟨y1, y2, y3⟩ := f7 k h
              have hkk : k = G := by omega
              refine ⟨y1, y2, ?_⟩
              rw [y3, sgK_ev' hI (by rw [hkk]; omega) (by rw [hkk]; omega)]
          by_cases h4 : J (evK (mt X) g) = J 4
          · rw [if_pos h4]
            rw [if_pos h4] at e33
            exact go 1 e33
          · rw [if_neg h4]
            rw [if_neg h4] at e33
            exact go 0 e33
      · cases n with
        | zero => omega
        | succ n =>
          obtain ⟨w, e1, e2, e3⟩ := lw_comesC hl hR hI (by decide) q1 q2
          have w23 : rw w o 23 = J q := (e3.2 23 (by omega)).trans h23
          have k := tkZ_inv hI.2.1
          rw [e1]
          simp only [Option.bind_some]
          rw [if_neg (by decide)]
          unfold K_lw_counts_32
          rw [grd_true _ hl.1]
          simp only [lt_def, si_wr, gi_x, if_true]
          rw [show J ((G + 1 : Nat) : Int) - J 1 = J (G : Int) by rw [← J_sub, show ((G + 1 : Nat) : Int) - 1 = (G : Int) by omega], w23, ← J_add, Int.add_zero]
          obtain ⟨v', T', c', g', f1, f2, f3, f4, f5, f6, f7⟩ := lw_countsCL hl n F G (wr w o (up (rw w o) 23 (J q))) _ q _ _ (by omega) (by omega) (lwR_up e2 (by decide)) (mdI_ck hI (by omega)) (by rw [rw_wr, up_same]) (fun j hj => by rw [tkN_s, ← hj]; exact hG4) (by omega)
          refine ⟨v', T', c', g', f1, f2, f3, f4, fle_tr (fle_of e3) (fle_tr (fle_up (by decide) (by decide)) f5), fun h => by omega, fun j hj => ?_⟩
          have hjG : j = G := by omega
          subst hjG
          cases j with
          | zero =>
            obtain ⟨y1, y2, y3⟩ := f6 rfl
            refine ⟨y1, y2, ?_⟩
            rw [y3]
            exact (sgK_0 (show 3 * c 4 < keS (mt X) g by omega)).symm
          | succ j =>
            obtain ⟨y1, y2, y3⟩ := f7 j rfl
            rw [tkN_s] at y1 y2 y3
            exact ⟨y1, y2, y3⟩
/-- the i-th output, behind one event -/
theorem oN_ev {t p g : Nat → Int} {u : Int} {i : Nat} (hJ : sgJ u t p g) (hu : 0 ≤ u) (h : keS t g ≤ 6000002) (h4 : ¬ J (evK t g) = J 4) : oN t p i g = oN t p i (ev1 t p g) := by
  have hg4 := hJ.1.2.2.2.2
  have hm : (i : Int) * g 4 + g 4 = ((i : Int) + 1) * g 4 := by rw [Int.add_mul, Int.one_mul]
  have hi := Int.mul_nonneg (show (0 : Int) ≤ i by omega) (show 0 ≤ g 4 by omega)
  unfold oN
  rw [eT_1 hJ hu h]
  by_cases hs : evS t g
  · have e : ev1 t p g = smZ t p g := if_pos hs
    rw [if_pos hs, e]
    rfl
  · rcases evK4 hs hJ.1.2.2.2.2.2.2 with q | q
    · exact absurd q.1 h4
    · have e : ev1 t p g = egZ g := if_neg hs
      rw [if_neg hs, if_neg (by omega), e]
      show eT t p (((i : Int) + 1) * g 4 - g 5 - 1) _ = eT t p (((i : Int) + 1) * g 4 - (if g 5 + 1 < g 4 then g 5 + 1 else 0)) _
      rw [if_pos (by omega), show ((i : Int) + 1) * g 4 - g 5 - 1 = ((i : Int) + 1) * g 4 - (g 5 + 1) by omega]
theorem oN_4 {t p g : Nat → Int} {u : Int} {i : Nat} (hJ : sgJ u t p g) (hu : 0 ≤ u) (h : keS t g ≤ 6000002) (h4 : J (evK t g) = J 4) : oN t p (i + 1) g = oN t p i (ev1 t p g) := by
  have hs : ¬ evS t g := fun q => evK_s q h4
  have hg4 := hJ.1.2.2.2.2
  have hm : ((i + 1 : Nat) : Int) * g 4 + g 4 = (((i + 1 : Nat) : Int) + 1) * g 4 := by rw [Int.add_mul, Int.one_mul]
  have hm2 : (i : Int) * g 4 + g 4 = ((i + 1 : Nat) : Int) * g 4 := by rw [show ((i + 1 : Nat) : Int) = (i : Int) + 1 by omega, Int.add_mul, Int.one_mul]
  have hm3 : ((i : Int) + 1) * g 4 = (i : Int) * g 4 + g 4 := by rw [Int.add_mul, Int.one_mul]
  have hi := Int.mul_nonneg (show (0 : Int) ≤ i by omega) (show 0 ≤ g 4 by omega)
  unfold oN
  rw [eT_1 hJ hu h, if_neg hs]
  rcases evK4 hs hJ.1.2.2.2.2.2.2 with q | q
  · have e : ev1 t p g = egZ g := if_neg hs
    rw [if_neg (by omega), e]
    show eT t p ((((i + 1 : Nat) : Int) + 1) * g 4 - g 5 - 1) _ = eT t p (((i : Int) + 1) * g 4 - (if g 5 + 1 < g 4 then g 5 + 1 else 0)) _
    rw [if_neg (by omega), show (((i + 1 : Nat) : Int) + 1) * g 4 - g 5 - 1 = ((i : Int) + 1) * g 4 - 0 by omega]
  · exact absurd h4 q.1
theorem oN_n {t p g : Nat → Int} {i : Nat} (h : oN t p i g ≠ -1) : keS t g ≤ 6000002 := by
  by_cases q : 6000002 < keS t g
  · exact absurd (eT_0 q) h
  · omega
/-- up to the next output -/
theorem lw_waitsOL (hl : lwL S o) : ∀ (n F : Nat) (v : vl) (T : Int) (c g : Nat → Int), n < F → lwR v o X T c g → mdI X T c g → oN (mt X) (mp X) 0 g ≠ -1 → (6000003 - keS (mt X) g).toNat + (6000003 - (3 * c 4 + 1)).toNat ≤ n →
    ∃ v', (F_lw_comes o (J 2000000) S v).bind (fun (x, w) => K_lw_waits_7 N F S w o (J 4) x) = some v' ∧ lwR v' o X (oN (mt X) (mp X) 0 g) (ckK (oN (mt X) (mp X) 0 g) c) (sgK (mt X) (mp X) (3 * oN (mt X) (mp X) 0 g + 2) g) ∧ rw v' o 21 = J (oN (mt X) (mp X) 0 g) ∧ rw v' o 23 = J 0 ∧ fle o 21 v v'
  | n, 0, v, T, c, g, hF, _, _, _, _ => absurd hF (Nat.not_lt_zero _)
  | n, F + 1, v, T, c, g, hF, hR, hI, h0, hm => by
    obtain ⟨⟨u, hJ, u0, u1⟩, -⟩ := id hI
    have hk2 := oN_n h0
    obtain ⟨-, -, -, -, a5, a6, a7⟩ := oN_at hJ u0 u1 h0
    rcases three (t := mt X) (g := g) (L := 2000000) (z := c 4) with ⟨q1, q2⟩ | ⟨q1, q2⟩ | ⟨q1, q2⟩
    · omega
    · cases n with
      | zero => omega
      | succ n =>
        obtain ⟨w, e1, e2, e3⟩ := lw_comesS hl hR hI (by decide) q1 q2
        obtain ⟨r1, r2⟩ := mdI_ev hI (show keS (mt X) g ≤ 6300002 by omega)
        rw [e1]
        show ∃ v', Y_lw_waits_7 N (K_lw_waits_7 N F S) S w o (J 4) (J (evK (mt X) g)) = some v' ∧ _
        unfold Y_lw_waits_7
        by_cases h4 : J (evK (mt X) g) = J 4
        · obtain ⟨o1, o2, o3⟩ := oT_4 hJ u0 hk2 h4
          have oe : oN (mt X) (mp X) 0 g = g 1 := by rw [oN_0]; exact o2
          have ee : ev1 (mt X) (mp X) g = sgK (mt X) (mp X) (3 * g 1 + 2) g := by
            rw [← sgK_ev' hI (by omega) (by omega), sgK_0 (by omega)]
          have eT' : evT (mt X) g = g 1 := if_neg o1
          rw [if_pos h4, grd_true _ hl.1]
          simp only [lt_def, si_wr, gi_x]
          rw [ee, eT'] at e2
          rw [oe]
          refine ⟨_, rfl, ?_, ?_, ?_, fle_tr (fle_of e3) (fle_tr (fle_up (k := 21) (by decide) (by decide)) (fle_up (k := 23) (by decide) (by decide)))⟩
          · rw [ckK_0 (show g 1 < c 4 by omega)]
            exact lwR_up (lwR_up e2 (by decide)) (by decide)
          · rw [rw_wr, up_ne (by decide), rw_wr, up_same]
            exact e2.1.1.2.2.1
          · rw [rw_wr, up_same]
        · rw [if_neg h4, grd_true _ hl.1]
          have oe := oN_ev (i := 0) hJ u0 hk2 h4
          rw [oe] at h0 a7 ⊢
          obtain ⟨v', f1, f2, f3, f4, f5⟩ := lw_waitsOL hl n F w _ _ _ (by omega) e2 r1 h0 (by omega)
          rw [sgK_ev' hI (by omega) (by omega)] at f2
          exact ⟨v', f1, f2, f3, f4, fle_tr (fle_of e3) f5⟩
    · cases n with
      | zero => omega
      | succ n =>
        obtain ⟨w, e1, e2, e3⟩ := lw_comesC hl hR hI (by decide) q1 q2
        have k := tkZ_inv hI.2.1
        rw [e1]
        show ∃ v', Y_lw_waits_7 N (K_lw_waits_7 N F S) S w o (J 4) (J 2) = some v' ∧ _
        unfold Y_lw_waits_7
        rw [if_neg (by decide), grd_true _ hl.1]
        obtain ⟨v', f1, f2, f3, f4, f5⟩ := lw_waitsOL hl n F w _ _ _ (by omega) e2 (mdI_ck hI (by omega)) h0 (by omega)
        rw [← ckK_1 hI.2.1 (by omega)] at f2
        exact ⟨v', f1, f2, f3, f4, fle_tr (fle_of e3) f5⟩
theorem lw_waitsO (hN : 13000000 ≤ N) (hl : lwL S o) (hR : lwR v o X T c g) (hI : mdI X T c g) (h0 : oN (mt X) (mp X) 0 g ≠ -1) : ∃ v', F_lw_waits N o (J 4) S v = some v' ∧ lwR v' o X (oN (mt X) (mp X) 0 g) (ckK (oN (mt X) (mp X) 0 g) c) (sgK (mt X) (mp X) (3 * oN (mt X) (mp X) 0 g + 2) g) ∧ rw v' o 21 = J (oN (mt X) (mp X) 0 g) ∧ rw v' o 23 = J 0 ∧ fle o 21 v v' := by
  have k1 := keS_nn hI
  have k2 := (c5_B hI).2.1
  unfold F_lw_waits
  rw [grd_true _ hl.1]
  exact lw_waitsOL (N := N) hl (12500000 : Nat) N v T c g (by omega) hR hI h0 (by omega)
/-- clock edges within so many outputs -/
theorem lw_countsOL (hl : lwL S o) : ∀ (n F P : Nat) (v : vl) (T q : Int) (c g : Nat → Int), n < F → P ≤ 10000 → lwR v o X T c g → mdI X T c g → rw v o 23 = J q → (∀ k, P = k + 1 → oN (mt X) (mp X) k g ≠ -1) → (6000003 - keS (mt X) g).toNat + (6000003 - (3 * c 4 + 1)).toNat ≤ n →
    ∃ (v' : vl) (T' : Int) (c' g' : Nat → Int), K_lw_counts_3 N F S v o (J 4) (J 2) (J (P : Int)) = some v' ∧ lwR v' o X T' c' g' ∧ rw v' o 22 = J T' ∧ rw v' o 23 = J (q + (c' 5 - c 5)) ∧ fle o 22 v v' ∧ (P = 0 → T' = T ∧ c' = c ∧ g' = g) ∧ ∀ k, P = k + 1 → T' = oN (mt X) (mp X) k g ∧ c' = ckK (oN (mt X) (mp X) k g) c ∧ g' = sgK (mt X) (mp X) (3 * oN (mt X) (mp X) k g + 2) g
  | n, 0, P, v, T, q, c, g, hF, _, _, _, _, _, _ => absurd hF (Nat.not_lt_zero _)
  | n, F + 1, P, v, T, q, c, g, hF, hP, hR, hI, h23, hk, hm => by
    show ∃ (v' : vl) (T' : Int) (c' g' : Nat → Int), Y_lw_counts_3 N (K_lw_counts_3 N F S) S v o (J 4) (J 2) (J (P : Int)) = some v' ∧ _
    unfold Y_lw_counts_3
    cases P with
    | zero =>
      rw [if_neg (show ¬ J 0 < J ((0 : Nat) : Int) from (by decide)), grd_true _ hl.1]
      simp only [lt_def, si_wr, gi_x]
      refine ⟨_, T, c, g, rfl, lwR_up hR (by decide), ?_, ?_, fle_up (by decide) (by decide), fun _ => ⟨rfl, rfl, rfl⟩, fun k h => by omega⟩
      · rw [rw_wr, up_same]
        exact hR.1.1.2.2.1
      · rw [rw_wr, up_ne (by decide), h23, show q + (c 5 - c 5) = q by omega]
    | succ P =>
      obtain ⟨⟨u, hJ, u0, u1⟩, -⟩ := id hI
      have h0 := hk P rfl
      have hk2 := oN_n h0
      obtain ⟨-, -, -, -, a5, a6, a7⟩ := oN_at hJ u0 u1 h0
      rw [if_pos ((J_lt (by decide) (by omega)).mpr (by omega)), grd_true _ hl.1]
      rcases three (t := mt X) (g := g) (L := 2000000) (z := c 4) with ⟨q1, q2⟩ | ⟨q1, q2⟩ | ⟨q1, q2⟩
      · omega
      · cases n with
        | zero => omega
        | succ n =>
          obtain ⟨w, e1, e2, e3⟩ := lw_comesS hl hR hI (by decide) q1 q2
          obtain ⟨r1, r2⟩ := mdI_ev hI (show keS (mt X) g ≤ 6300002 by omega)
          have w23 : rw w o 23 = J q := (e3.2 23 (by omega)).trans h23
          rw [e1]
          simp only [Option.bind_some]
          rw [if_neg (evK_ne _ _).2]
          unfold K_lw_counts_32
          rw [grd_true _ hl.1]
          simp only [lt_def, si_wr, gi_x]
          rw [w23, ← J_add, Int.add_zero]
          by_cases h4 : J (evK (mt X) g) = J 4
          · rw [if_pos h4, show J ((P + 1 : Nat) : Int) - J 1 = J (P : Int) by rw [← J_sub, show ((P + 1 : Nat) : Int) - 1 = (P : Int) by omega]]
            have hJ' := r1.1
            obtain ⟨v', T', c', g', f1, f2, f3, f4, f5, f6, f7⟩ := lw_countsOL hl n F P (wr w o (up (rw w o) 23 (J q))) _ q _ _ (by omega) (by omega) (lwR_up e2 (by decide)) r1 (by rw [rw_wr, up_same]) (fun j hj => by rw [← oN_4 hJ u0 hk2 h4, ← hj]; exact h0) (by omega)
            refine ⟨v', T', c', g', f1, f2, f3, f4, fle_tr (fle_of e3) (fle_tr (fle_up (by decide) (by decide)) f5), fun h => by omega, fun j hj => ?_⟩
            have hjG : j = P := by omega
            subst hjG
            cases j with
            | zero =>
              obtain ⟨o1, o2, o3⟩ := oT_4 hJ u0 hk2 h4
              have oe : oN (mt X) (mp X) 0 g = g 1 := by rw [oN_0]; exact o2
              have eT' : evT (mt X) g = g 1 := if_neg o1
              obtain ⟨y1, y2, y3⟩ := f6 rfl
              rw [oe]
              refine ⟨by rw [y1, eT'], by rw [y2, ckK_0 (show g 1 < c 4 by omega)], ?_⟩
              rw [y3, ← sgK_ev' hI (by omega) (by omega), sgK_0 (by omega)]
            | succ j =>
              obtain ⟨y1, y2, y3⟩ := f7 j rfl
              rw [← oN_4 hJ u0 hk2 h4] at y1 y2 y3
              refine ⟨y1, y2, ?_⟩
              rw [y3, sgK_ev' hI (by omega) (by omega)]
          · rw [if_neg h4, show J ((P + 1 : Nat) : Int) - J 0 = J ((P + 1 : Nat) : Int) by rw [← J_sub, Int.sub_zero]]
            obtain ⟨v', T', c', g', f1, f2, f3, f4, f5, f6, f7⟩ := lw_countsOL hl n F (P + 1) (wr w o (up (rw w o) 23 (J q))) _ q _ _ (by omega) hP (lwR_up e2 (by decide)) r1 (by rw [rw_wr, up_same]) (fun j hj => by rw [← oN_ev hJ u0 hk2 h4]; exact hk j hj) (by omega)
            refine ⟨v', T', c', g', f1, f2, f3, f4, fle_tr (fle_of e3) (fle_tr (fle_up (by decide) (by decide)) f5), fun h => by omega, fun j hj => ?_⟩
            have hjG : j = P := by omega
            subst hjG
            obtain ⟨y1, y2, y3⟩ := f7 j rfl
            rw [← oN_ev hJ u0 hk2 h4] at y1 y2 y3
            refine ⟨y1, y2, ?_⟩
            rw [y3, sgK_ev' hI (by omega) (by omega)]
      · cases n with
        | zero => omega
        | succ n =>
          obtain ⟨w, e1, e2, e3⟩ := lw_comesC hl hR hI (by decide) q1 q2
          have w23 : rw w o 23 = J q := (e3.2 23 (by omega)).trans h23
          have k := tkZ_inv hI.2.1
          rw [e1]
          simp only [Option.bind_some, if_true]
          unfold K_lw_counts_32
          rw [grd_true _ hl.1]
          simp only [lt_def, si_wr, gi_x]
          rw [if_neg (by decide), show J ((P + 1 : Nat) : Int) - J 0 = J ((P + 1 : Nat) : Int) by rw [← J_sub, Int.sub_zero], w23, ← J_add]
          obtain ⟨v', T', c', g', f1, f2, f3, f4, f5, f6, f7⟩ := lw_countsOL hl n F (P + 1) (wr w o (up (rw w o) 23 (J (q + 1)))) _ (q + 1) _ _ (by omega) hP (lwR_up e2 (by decide)) (mdI_ck hI (by omega)) (by rw [rw_wr, up_same]) hk (by omega)
          refine ⟨v', T', c', g', f1, f2, f3, ?_, fle_tr (fle_of e3) (fle_tr (fle_up (by decide) (by decide)) f5), fun h => by omega, fun j hj => ?_⟩
          · rw [f4, show (tkZ c) 5 = c 5 + 1 from rfl, show q + 1 + (c' 5 - (c 5 + 1)) = q + (c' 5 - c 5) by omega]
          · have hjG : j = P := by omega
            subst hjG
            obtain ⟨y1, y2, y3⟩ := f7 j rfl
            rw [← ckK_1 hI.2.1 (by omega)] at y2
            exact ⟨y1, y2, y3⟩
end LAWWAYS
