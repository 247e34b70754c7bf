/-! The signal's events by their keys: a segment at s has 3s, a clock edge 3s+1, an edge 3s+2; what has the least key comes next. -/
section EVENTS
/-- as a rewriting that is no unfolding: conditions keep their instances -/
theorem gi_x {v : vl} {a k : Nat} : gi v a k = rw v a k := Eq.trans (Eq.refl (gi v a k)) gi_rw
abbrev evS (t g : Nat → Int) : Prop := g 9 < g 8 ∧ (g 1 = -1 ∨ t (g 9).toNat ≤ g 1)
def keS (t g : Nat → Int) : Int := if evS t g then 3 * t (g 9).toNat else if g 1 = -1 then 9000000000 else 3 * g 1 + 2
def ev1 (t p g : Nat → Int) : Nat → Int := if evS t g then smZ t p g else egZ g
/-- the signal goes on behind all events with keys up to K -/
def sgK (t p : Nat → Int) (K : Int) (g : Nat → Int) : Nat → Int := psZ t p (K / 3) ((K - 2) / 3) (g 8 - g 9).toNat g
theorem edE_n0 {T : Int} {g : Nat → Int} (h : edN T g = 0) : edE T g = g := by
  unfold edE
  rw [h]
  rfl
theorem edN_none {T : Int} {g : Nat → Int} (h : g 1 = -1 ∨ T < g 1) : edN T g = 0 := by
  unfold edN edF
  exact if_neg fun q => by omega
theorem sgK_0 {t p g : Nat → Int} {K : Int} (hK : K < keS t g) : sgK t p K g = g := by
  have hB : g 1 = -1 ∨ (K - 2) / 3 < g 1 := by
    by_cases h1 : g 1 = -1
    · exact Or.inl h1
    · right
      unfold keS at hK
      by_cases h : evS t g
      · rw [if_pos h] at hK
        have := h.2
        omega
      · rw [if_neg h, if_neg h1] at hK
        omega
  have hA : ¬ (g 9 < g 8 ∧ t (g 9).toNat ≤ K / 3) := by
    rintro ⟨q1, q2⟩
    unfold keS at hK
    by_cases h : evS t g
    · rw [if_pos h] at hK
      omega
    · rw [if_neg h] at hK
      have h1 : ¬ g 1 = -1 := fun z => h ⟨q1, Or.inl z⟩
      have h2 : ¬ t (g 9).toNat ≤ g 1 := fun z => h ⟨q1, Or.inr z⟩
      rw [if_neg h1] at hK
      omega
  unfold sgK
  cases hn : (g 8 - g 9).toNat with
  | zero => exact edE_n0 (edN_none hB)
  | succ n =>
    show (if _ then _ else _) = _
    rw [if_neg hA]
    exact edE_n0 (edN_none hB)
theorem sgK_seg {t p g : Nat → Int} {K : Int} (h : evS t g) (hK : keS t g ≤ K) : sgK t p K g = sgK t p K (smZ t p g) := by
  unfold keS at hK
  rw [if_pos h] at hK
  have h8 : smZ t p g 8 = g 8 := rfl
  have h9 : smZ t p g 9 = g 9 + 1 := rfl
  unfold sgK
  rw [h8, h9]
  have e : (g 8 - g 9).toNat = (g 8 - (g 9 + 1)).toNat + 1 := by have := h.1; omega
  rw [e]
  show (if _ then _ else _) = _
  rw [if_pos ⟨h.1, by omega⟩, edE_n0 (edN_none (by have := h.2; omega))]
theorem edE_step {T : Int} {g : Nat → Int} (h0 : 0 < g 0) (h1 : 0 ≤ g 1) (hT : g 1 ≤ T) : edE T g = edE T (egZ g) := by
  have e1 : egZ g 1 = g 1 + g 0 := rfl
  have e0 : egZ g 0 = g 0 := rfl
  have hn : edN T g = edN T (egZ g) + 1 := by
    unfold edN edF
    rw [e1, e0, if_pos ⟨by omega, hT, h0⟩]
    by_cases q : g 1 + g 0 ≤ T
    · rw [if_pos ⟨by omega, q, h0⟩]
      have e : T - g 1 = (T - (g 1 + g 0)) + 1 * g 0 := by omega
      rw [e, Int.add_mul_ediv_right _ _ (by omega)]
    · rw [if_neg fun z => q z.2.1, Int.ediv_eq_zero_of_lt (by omega) (by omega)]
  have hp := edN_nn T (egZ g)
  unfold edE
  rw [hn, show (edN T (egZ g) + 1).toNat = 1 + (edN T (egZ g)).toNat by omega, egN_add]
  rfl
theorem sgK_edge {t p g : Nat → Int} {K : Int} (h0 : 0 < g 0) (h1 : 0 ≤ g 1) (h : ¬ evS t g) (hK : keS t g ≤ K) : sgK t p K g = sgK t p K (egZ g) := by
  have h1' : ¬ g 1 = -1 := by omega
  unfold keS at hK
  rw [if_neg h, if_neg h1'] at hK
  have h8 : egZ g 8 = g 8 := rfl
  have h9 : egZ g 9 = g 9 := rfl
  unfold sgK
  rw [h8, h9]
  cases hn : (g 8 - g 9).toNat with
  | zero => exact edE_step h0 h1 (by omega)
  | succ n =>
    show (if _ then _ else _) = (if _ then _ else _)
    rw [h8, h9]
    by_cases q : g 9 < g 8 ∧ t (g 9).toNat ≤ K / 3
    · rw [if_pos q, if_pos q]
      have h2 : ¬ t (g 9).toNat ≤ g 1 := fun z => h ⟨q.1, Or.inr z⟩
      rw [edE_step h0 h1 (show g 1 ≤ t (g 9).toNat - 1 by omega)]
    · rw [if_neg q, if_neg q]
      exact edE_step h0 h1 (by omega)
/-- what an event keeps -/
theorem ev1_J {u : Int} {t p g : Nat → Int} (hJ : sgJ u t p g) (hu : 0 ≤ u) (hK : keS t g ≤ 6300002) : ∃ u', sgJ u' t p (ev1 t p g) ∧ u ≤ u' ∧ 3 * u' ≤ keS t g ∧ u' ≤ 2100000 ∧ keS t g < keS t (ev1 t p g) ∧ (¬ evS t g → 0 < g 0 ∧ u < g 1 ∧ g 1 ≤ 2100000 ∧ u' = g 1) ∧ (evS t g → u' = t (g 9).toNat) := by
  obtain ⟨hI, b, c, d⟩ := id hJ
  unfold ev1
  by_cases h : evS t g
  · have e : (((g 9).toNat : Nat) : Int) = g 9 := by omega
    obtain ⟨c1, c2, -⟩ := c (g 9).toNat (by have := h.1; omega)
    have hk : keS t g = 3 * t (g 9).toNat := by unfold keS; rw [if_pos h]
    have d1 := d (g 9).toNat (by omega) (by have := h.1; omega)
    rw [if_pos h]
    refine ⟨t (g 9).toNat, smZ_J hJ hu h.1 (fun z => ?_) d1, d1, by omega, by omega, ?_, fun q => absurd h q, fun _ => rfl⟩
    · have := hI.2.2.1 z
      have := h.2
      omega
    · rw [hk]
      unfold keS
      have h8 : smZ t p g 8 = g 8 := rfl
      have h9 : smZ t p g 9 = g 9 + 1 := rfl
      have h1 : smZ t p g 1 = if 0 < p (g 9).toNat then t (g 9).toNat + p (g 9).toNat else -1 := rfl
      split
      · rename_i q
        have q1 : g 9 + 1 < g 8 := q.1
        rw [h9]
        have := (c (g 9 + 1).toNat (by omega)).2.2 (g 9).toNat (by omega)
        omega
      · split
        · omega
        · rename_i q
          rw [h1] at q ⊢
          split
          · omega
          · rename_i q2; rw [if_neg q2] at q; exact absurd rfl q
  · have hk : keS t g = if g 1 = -1 then 9000000000 else 3 * g 1 + 2 := by unfold keS; rw [if_neg h]
    have h1 : ¬ g 1 = -1 := fun z => by rw [hk, if_pos z] at hK; omega
    rw [hk, if_neg h1] at hK
    obtain ⟨a0, a1, a2, a3, a4, a5⟩ := id hI
    have p0 : 0 < g 0 := by
      by_cases z : g 0 = 0
      · exact absurd (a1 z) h1
      · omega
    obtain ⟨a2', a2''⟩ := a2 p0
    rw [if_neg h, hk, if_neg h1]
    have e1 : egZ g 1 = g 1 + g 0 := rfl
    have seg : ∀ i : Nat, g 9 ≤ i → (i : Int) < g 8 → g 1 < t i := by
      intro i h1 h2
      have e : (((g 9).toNat : Nat) : Int) = g 9 := by omega
      have q : ¬ t (g 9).toNat ≤ g 1 := fun z => h ⟨by omega, Or.inr z⟩
      by_cases z : (g 9).toNat = i
      · rw [← z]; omega
      · have := (c i h2).2.2 (g 9).toNat (by omega)
        omega
    refine ⟨g 1, ⟨⟨a0, fun z => ?_, fun _ => ?_, ⟨?_, ?_, ?_⟩, a4, ?_⟩, b, c, fun i h1 h2 => ?_⟩, by omega, by omega, by omega, ?_, fun _ => ⟨p0, a2', by omega, rfl⟩, fun z => absurd z h⟩
    · have z' : g 0 = 0 := z
      omega
    · rw [e1]; omega
    · show 0 ≤ (if g 5 + 1 < g 4 then g 3 else g 3 + 1); split <;> omega
    · show (if g 5 + 1 < g 4 then g 3 else g 3 + 1) ≤ g 2 + 1; split <;> omega
    · show g 2 + 1 ≤ g 1; omega
    · show 0 ≤ (if g 5 + 1 < g 4 then g 5 + 1 else 0) ∧ (if g 5 + 1 < g 4 then g 5 + 1 else 0) < g 4; split <;> omega
    · have := seg i h1 h2; omega
    · unfold keS
      split
      · rename_i q
        have e : (((g 9).toNat : Nat) : Int) = g 9 := by omega
        have := seg (g 9).toNat (by omega) (by have := q.1; have e8 : egZ g 8 = g 8 := rfl; have e9 : egZ g 9 = g 9 := rfl; omega)
        show _ < 3 * t (g 9).toNat
        omega
      · rw [e1]
        split <;> omega
theorem sgK_ev {u : Int} {t p g : Nat → Int} {K : Int} (hJ : sgJ u t p g) (hu : 0 ≤ u) (hK2 : K ≤ 6300002) (hK : keS t g ≤ K) : sgK t p K g = sgK t p K (ev1 t p g) := by
  obtain ⟨u', -, -, -, -, -, h2, -⟩ := ev1_J hJ hu (show keS t g ≤ 6300002 by omega)
  unfold ev1
  by_cases h : evS t g
  · rw [if_pos h]; exact sgK_seg h hK
  · rw [if_neg h]
    have := h2 h
    exact sgK_edge this.1 (by omega) h hK
/-- what holds ahead, and of each event, holds behind -/
theorem sgK_ind {t p : Nat → Int} {K : Int} (hK : K ≤ 6300002) (M : (Nat → Int) → Prop) (hs : ∀ u g, sgJ u t p g → 0 ≤ u → u ≤ 2100000 → M g → keS t g ≤ K → M (ev1 t p g)) : ∀ (n : Nat) (u : Int) (g : Nat → Int), sgJ u t p g → 0 ≤ u → u ≤ 2100000 → K - keS t g < n → M g →
    M (sgK t p K g) ∧ K < keS t (sgK t p K g) ∧ ∃ u', sgJ u' t p (sgK t p K g) ∧ u ≤ u' ∧ (u' = u ∨ 3 * u' ≤ K) ∧ u' ≤ 2100000
  | 0, u, g, hJ, hu, hu2, hn, hM => by
    have h : K < keS t g := by omega
    rw [sgK_0 h]
    exact ⟨hM, h, u, hJ, Int.le_refl _, Or.inl rfl, hu2⟩
  | n + 1, u, g, hJ, hu, hu2, hn, hM => by
    by_cases h : K < keS t g
    · rw [sgK_0 h]
      exact ⟨hM, h, u, hJ, Int.le_refl _, Or.inl rfl, hu2⟩
    · obtain ⟨u1, k1, k2, k3, k4, k5, -⟩ := ev1_J hJ hu (show keS t g ≤ 6300002 by omega)
      rw [sgK_ev hJ hu hK (by omega)]
      obtain ⟨r1, r2, u', r3, r4, r5, r6⟩ := sgK_ind hK M hs n u1 _ k1 (by omega) k4 (by omega) (hs u g hJ hu hu2 hM (by omega))
      exact ⟨r1, r2, u', r3, by omega, by omega, r6⟩
theorem sgK_J {u : Int} {t p g : Nat → Int} {K : Int} (hJ : sgJ u t p g) (hu : 0 ≤ u) (hu2 : u ≤ 2100000) (hK : K ≤ 6300002) : K < keS t (sgK t p K g) ∧ ∃ u', sgJ u' t p (sgK t p K g) ∧ u ≤ u' ∧ (u' = u ∨ 3 * u' ≤ K) ∧ u' ≤ 2100000 :=
  (sgK_ind hK (fun _ => True) (fun _ _ _ _ _ _ _ => trivial) (K - keS t g + 1).toNat u g hJ hu hu2 (by omega) trivial).2
theorem sgK_M {u : Int} {t p g : Nat → Int} {K : Int} (hJ : sgJ u t p g) (hu : 0 ≤ u) (hu2 : u ≤ 2100000) (hK : K ≤ 6300002) (M : (Nat → Int) → Prop) (h0 : M g) (hs : ∀ u g, sgJ u t p g → 0 ≤ u → u ≤ 2100000 → M g → keS t g ≤ K → M (ev1 t p g)) : M (sgK t p K g) :=
  (sgK_ind hK M hs (K - keS t g + 1).toNat u g hJ hu hu2 (by omega) h0).1
/-- two ways behind one another are one -/
theorem sgK_K {u : Int} {t p g : Nat → Int} {K L : Int} (hJ : sgJ u t p g) (hu : 0 ≤ u) (hu2 : u ≤ 2100000) (hKL : K ≤ L) (hL : L ≤ 6300002) : sgK t p L (sgK t p K g) = sgK t p L g := by
  refine sgK_M (K := K) hJ hu hu2 (by omega) (fun h => sgK t p L h = sgK t p L g) rfl (fun u' h hJ' hu' _ hM hk => ?_)
  rw [← hM]
  exact (sgK_ev hJ' hu' hL (by omega)).symm
/-- the clock goes on behind all its edges up to T -/
def ckF : Nat → Int → (Nat → Int) → (Nat → Int)
  | 0, _, c => c
  | n + 1, T, c => if c 4 ≤ T then ckF n T (tkZ c) else c
def ckK (T : Int) (c : Nat → Int) : Nat → Int := ckF (T - c 4 + 1).toNat T c
theorem ckF_eq {T : Int} : ∀ (n m : Nat) (c : Nat → Int), ckI c → T - c 4 < n → T - c 4 < m → ckF n T c = ckF m T c
  | 0, 0, c, _, _, _ => rfl
  | 0, m + 1, c, _, h, _ => by
    show c = (if _ then _ else _)
    rw [if_neg (by omega)]
  | n + 1, 0, c, _, _, h => by
    show (if _ then _ else _) = c
    rw [if_neg (by omega)]
  | n + 1, m + 1, c, hc, h1, h2 => by
    show (if _ then _ else _) = (if _ then _ else _)
    by_cases q : c 4 ≤ T
    · rw [if_pos q, if_pos q]
      have := tkZ_inv hc
      exact ckF_eq n m _ this.1 (by omega) (by omega)
    · rw [if_neg q, if_neg q]
theorem ckK_0 {T : Int} {c : Nat → Int} (h : T < c 4) : ckK T c = c := by
  unfold ckK
  rw [show (T - c 4 + 1).toNat = 0 by omega]
  rfl
theorem ckK_1 {T : Int} {c : Nat → Int} (hc : ckI c) (h : c 4 ≤ T) : ckK T c = ckK T (tkZ c) := by
  have k := tkZ_inv hc
  unfold ckK
  obtain ⟨n, hn⟩ : ∃ n, (T - c 4 + 1).toNat = n + 1 := ⟨(T - c 4 + 1).toNat - 1, by omega⟩
  rw [hn]
  show (if _ then _ else _) = _
  rw [if_pos h]
  exact ckF_eq _ _ _ k.1 (by omega) (by omega)
theorem ckK_to {T : Int} : ∀ (m : Nat) (c : Nat → Int), ckI c → isTo T c m → ckK T c = tkN m c
  | 0, c, _, h => ckK_0 h.1
  | m + 1, c, hc, h => by
    have k := isTo_sh h (show 1 ≤ m + 1 by omega)
    rw [ckK_1 hc (h.2 0 (by omega)), ckK_to m (tkZ c) (tkZ_inv hc).1 k, show m + 1 = 1 + m by omega, tkN_add]
    rfl
theorem ckK_ind {T : Int} (M : (Nat → Int) → Prop) (hs : ∀ c, ckI c → M c → c 4 ≤ T → M (tkZ c)) : ∀ (n : Nat) (c : Nat → Int), ckI c → T - c 4 < n → M c → M (ckK T c) ∧ ckI (ckK T c) ∧ T < ckK T c 4
  | 0, c, hc, h, hM => by
    rw [ckK_0 (by omega)]
    exact ⟨hM, hc, by omega⟩
  | n + 1, c, hc, h, hM => by
    by_cases q : c 4 ≤ T
    · rw [ckK_1 hc q]
      have := tkZ_inv hc
      exact ckK_ind M hs n _ this.1 (by omega) (hs c hc hM q)
    · rw [ckK_0 (by omega)]
      exact ⟨hM, hc, by omega⟩
theorem ckK_M {T : Int} {c : Nat → Int} (hc : ckI c) (M : (Nat → Int) → Prop) (h0 : M c) (hs : ∀ c, ckI c → M c → c 4 ≤ T → M (tkZ c)) : M (ckK T c) ∧ ckI (ckK T c) ∧ T < ckK T c 4 :=
  ckK_ind M hs (T - c 4 + 1).toNat c hc (by omega) h0
theorem ckK_K {T U : Int} {c : Nat → Int} (hc : ckI c) (h : T ≤ U) : ckK U (ckK T c) = ckK U c := by
  refine (ckK_M hc (fun d => ckK U d = ckK U c) rfl (fun d hd hM h4 => ?_)).1
  rw [← hM]
  exact (ckK_1 hd (by omega)).symm
end EVENTS
