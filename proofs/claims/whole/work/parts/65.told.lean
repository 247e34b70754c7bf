/-! What the model tells of a measurement. -/
section TOLD
theorem gm_madeValue {S : shp} {v : vl} {m : Nat} {c : Nat → Int} {n P G Pn k : Int} (hl : mdL S m) (f13 : rw v m 13 = J n) (r1 : rw v (m + 1) 1 = J (c 0)) (r4 : rw v (m + 1) 4 = J P) (r5 : rw v (m + 1) 5 = J G) (r6 : rw v (m + 1) 6 = J Pn) (r7 : rw v (m + 1) 7 = J k) (hs : 10 ≤ c 0 ∧ c 0 ≤ 999) (hP : 1 ≤ P ∧ P ≤ 16) (hn : 0 ≤ n ∧ n ≤ 2100000) (hG : 1 ≤ G ∧ G ≤ 9999) (hPn : 1 ≤ Pn ∧ Pn ≤ 999) (hk : -99 ≤ k ∧ k ≤ 99) :
    F_gm_madeValue m (J 0) S v = some (J (valZ n G (c 0) k P)) ∧ (1 ≤ n → F_gm_madeValue m (J 1) S v = some (J (valZ Pn n (c 0) k P))) := by
  constructor
  · unfold F_gm_madeValue
    rw [if_pos rfl, grd_true _ hl.1, hl.2.1]
    simp only [Option.bind_some]
    rw [grd_true _ hl.2.2.1, gi_rw, gi_rw, gi_rw, f13, r5, r7, gm_gateValue hl r1 r4 hs hP hn (by omega) hk]
    rfl
  · intro h1
    unfold F_gm_madeValue
    rw [if_neg (by decide), grd_true _ hl.1, hl.2.1]
    simp only [Option.bind_some]
    rw [grd_true _ hl.2.2.1, gi_rw, gi_rw, gi_rw, f13, r6, r7, gm_periodValue hl r1 r4 hs hP (by omega) (by omega) hk]
    rfl
theorem gm_told {S : shp} {v : vl} {m N : Nat} {c : Nat → Int} {b T0 T1 n w P G Pn k : Int} {val : Int} (hN : 100 ≤ N) (hl : mdL S m) (f11 : rw v m 11 = J T0) (f12 : rw v m 12 = J T1) (f13 : rw v m 13 = J n) (r5 : rw v (m + 1) 5 = J G) (r6 : rw v (m + 1) 6 = J Pn) (r7 : rw v (m + 1) 7 = J k) (hn : 0 ≤ n ∧ n ≤ 2100000) (hb : b = 0 ∨ b = 1) (hval : F_gm_madeValue m (J b) S v = some (J val)) (hw : 0 ≤ w ∧ w ≤ 7) :
    F_gm_told N m (J b) (J w) S v = some (J (mN (msZ b T0 T1 n val (if b = 0 then G else Pn) k) w)) := by
  have e : ∀ n : Int, (0 ≤ n ∧ n ≤ 7) → (J w = J n ↔ w = n) := fun n hn => J_eq (by omega) (by omega)
  have eb : (J b = J 0) ↔ b = 0 := J_eq (by omega) (by omega)
  unfold F_gm_told mN
  simp only [e 0 (by decide), e 1 (by decide), e 2 (by decide), e 3 (by decide), e 4 (by decide), e 5 (by decide), e 6 (by decide), eb]
  by_cases h0 : w = 0
  · rw [if_pos h0, if_pos h0]
    show _ = some (J b)
    rcases hb with q | q
    · rw [q, if_pos rfl]
    · rw [q, if_neg (by decide)]
  · rw [if_neg h0, if_neg h0]
    by_cases h1 : w = 1
    · rw [if_pos h1, if_pos h1, grd_true _ hl.1, gi_rw, f11]
      rfl
    · rw [if_neg h1, if_neg h1]
      by_cases h2 : w = 2
      · rw [if_pos h2, if_pos h2, grd_true _ hl.1, gi_rw, f12]
        rfl
      · rw [if_neg h2, if_neg h2]
        by_cases h3 : w = 3
        · rw [if_pos h3, if_pos h3, grd_true _ hl.1, gi_rw, f13]
          rfl
        · rw [if_neg h3, if_neg h3]
          by_cases h4 : w = 4
          · rw [if_pos h4, if_pos h4, grd_true _ hl.1, hval]
            rfl
          · rw [if_neg h4, if_neg h4]
            by_cases h5 : w = 5
            · rw [if_pos h5, if_pos h5, grd_true _ hl.1, gi_rw, f13, gm_digitsOf hN (by omega)]
              rfl
            · rw [if_neg h5, if_neg h5]
              by_cases h6 : w = 6
              · rw [if_pos h6, if_pos h6]
                show _ = some (J (if b = 0 then G else Pn))
                rcases hb with q | q
                · rw [if_pos q, if_pos q, grd_true _ hl.1, hl.2.1]
                  simp only [Option.bind_some]
                  rw [grd_true _ hl.2.2.1, gi_rw, r5]
                · rw [if_neg (by omega), if_neg (by omega), grd_true _ hl.1, hl.2.1]
                  simp only [Option.bind_some]
                  rw [grd_true _ hl.2.2.1, gi_rw, r6]
              · rw [if_neg h6, if_neg h6, grd_true _ hl.1, hl.2.1]
                simp only [Option.bind_some]
                rw [grd_true _ hl.2.2.1, gi_rw, r7]
                rfl
theorem oN_congr {t p t' p' g : Nat → Int} {i : Nat} (h9 : 0 ≤ g 9) (h : ∀ i : Nat, (i : Int) < g 8 → t i = t' i ∧ p i = p' i) : oN t p i g = oN t' p' i g := eT_congr h9 h
theorem cO_congr {t p t' p' c g : Nat → Int} {i : Nat} (h9 : 0 ≤ g 9) (h : ∀ i : Nat, (i : Int) < g 8 → t i = t' i ∧ p i = p' i) : cO t p i c g = cO t' p' i c g := by
  unfold cO
  rw [oN_congr h9 h, oN_congr h9 h]
theorem gG_congr {t p t' p' c g : Nat → Int} {i : Nat} (h9 : 0 ≤ g 9) (h : ∀ i : Nat, (i : Int) < g 8 → t i = t' i ∧ p i = p' i) : gG t p i c g = gG t' p' i c g := sgK_congr h9 h
/-- the model's quiet ways: what is thought of leaves its row as it was -/
def mq (m : Nat) (v v' : vl) : Prop := v'.2 = v.2 ∧ (∀ a, a ≠ m → a ≠ m + 1 → a ≠ m + 3 → rw v' a = rw v a) ∧ eqX (rw v m) (rw v' m) ∧ ∀ k, k < 199 → rw v' (m + 1) k = rw v (m + 1) k
theorem mq_refl (m : Nat) (v : vl) : mq m v v := ⟨rfl, fun _ _ _ _ => rfl, eqX_refl _, fun _ _ => rfl⟩
theorem mq_tr {m : Nat} {u v w : vl} (h1 : mq m u v) (h2 : mq m v w) : mq m u w :=
  ⟨h2.1.trans h1.1, fun a x y z => (h2.2.1 a x y z).trans (h1.2.1 a x y z), eqX_tr h1.2.2.1 h2.2.2.1, fun k hk => (h2.2.2.2 k hk).trans (h1.2.2.2 k hk)⟩
/-- it thinks, goes on, and comes back -/
theorem mq_back {m : Nat} {v : vl} {f R : Nat → Int32} {A B : Nat → Int32} (hf : eqX (rw v m) f) (hA : ∀ k, k < 199 → A k = rw v (m + 1) k) (hB : ∀ k, k < 199 → B k = A k) : mq m v (wr (wr (wr (wr v (m + 3) A) m f) (m + 1) R) (m + 1) B) := by
  refine ⟨rfl, fun a h0 h1 h3 => ?_, ?_, fun k hk => ?_⟩
  · rw [rw_wr_ne h1, rw_wr_ne h1, rw_wr_ne h0, rw_wr_ne h3]
  · rw [rw_wr_ne (by omega), rw_wr_ne (by omega), rw_wr]
    exact hf
  · rw [rw_wr, hB k hk, hA k hk]
/-- a gate is measured -/
theorem gm_measG {S : shp} {v : vl} {m N : Nat} {h c g t p : Nat → Int} {M : Nat → Nat → Int} (hN : 7000000 ≤ N) (hl : mdL S m) (hR : rowM (rw v (m + 1)) h c g t p M) (hV : stV h c g t p M) :
    ∃ f' R', F_gm_measuresGate N m S v = some (J (gW h c), wr (wr v m f') (m + 1) R') ∧ eqX (rw v m) f' ∧
      (gW h c = 0 → f' 11 = J (c 4) ∧ f' 12 = J ((tkN (h 1).toNat c) 4) ∧ f' 13 = J (gO t p (h 1).toNat c g) ∧ f' 14 = J (gG t p 0 c g 2) ∧ f' 15 = J (gG t p (h 1).toNat c g 2) ∧ rowM R' (fun k => if k = 0 then (tkN (h 1).toNat c) 4 else h k) (tkN ((h 1).toNat + 1) c) (gG t p (h 1).toNat c g) t p M) := by
  obtain ⟨X, x0, x5, x6, x7, hag, hI, hX⟩ := rowM_X hR hV
  have hv1 := hV.1.2.1
  have h9 : 0 ≤ g 9 := hV.2.2.1.1.choose_spec.1.2.1.1
  obtain ⟨r1, r2⟩ := gm_measuresGate (G := (h 1).toNat) hN hl x0 hI (by omega) (by omega)
  have e0 := gG_congr (i := 0) (c := c) h9 hag
  have eG := gG_congr (i := (h 1).toNat) (c := c) h9 hag
  by_cases q : (tkN (h 1).toNat c) 4 ≤ 2000000
  · have e : gW h c = 0 := gW_0.mpr q
    rw [e]
    refine ⟨_, _, r1 q, ?_, fun _ => ⟨?_, ?_, ?_, ?_, ?_, ?_⟩⟩
    · exact eqX_tr (eqX_bgN _ _ _) (eqX_fdC _ _ _ _)
    · rfl
    · rfl
    · show J _ = J _
      rw [← e0, ← eG]
      rfl
    · rw [e0]
      rfl
    · rw [eG]
      rfl
    · rw [← eG]
      refine rowM_mk hR hX ?_
      exact (sgV_K hV.2.2.1 (by omega)).2.1
  · obtain ⟨f', R', s1, s2⟩ := r2 (by omega)
    have e : gW h c = 1 := by unfold gW; rw [if_neg q]
    refine ⟨f', R', ?_, s2, fun z => by omega⟩
    rw [s1, e]
theorem gm_measP {S : shp} {v : vl} {m N : Nat} {h c g t p : Nat → Int} {M : Nat → Nat → Int} (hN : 7000000 ≤ N) (hl : mdL S m) (hR : rowM (rw v (m + 1)) h c g t p M) (hV : stV h c g t p M) :
    ∃ f' R', F_gm_measuresPeriod N m S v = some (J (pW h c g t p), wr (wr v m f') (m + 1) R') ∧ eqX (rw v m) f' ∧
      (pW h c g t p = 0 → f' 11 = J (oN t p 0 g) ∧ f' 12 = J (oN t p (h 2).toNat g) ∧ f' 13 = J (cO t p (h 2).toNat c g) ∧ rowM R' (fun k => if k = 0 then oN t p (h 2).toNat g else h k) (ckK (oN t p (h 2).toNat g) c) (sgK t p (3 * oN t p (h 2).toNat g + 2) g) t p M) := by
  obtain ⟨X, x0, x5, x6, x7, hag, hI, hX⟩ := rowM_X hR hV
  have hv2 := hV.1.2.2.1
  have h9 : 0 ≤ g 9 := hV.2.2.1.1.choose_spec.1.2.1.1
  obtain ⟨r1, r2⟩ := gm_measuresPeriod (G := (h 2).toNat) hN hl x0 hI (by omega) (by omega)
  have e0 := oN_congr (i := 0) h9 hag
  have eG := oN_congr (i := (h 2).toNat) h9 hag
  have eC := cO_congr (i := (h 2).toNat) (c := c) h9 hag
  have eL := sgK_congr (K := 6000002) h9 hag
  rw [← eG, ← eC] at r1
  rw [← eG, ← eL] at r2
  unfold pW
  by_cases q : oN t p (h 2).toNat g = -1
  · obtain ⟨f', R', s1, s2⟩ := r2 q
    refine ⟨f', R', ?_, s2, fun z => ?_⟩
    · rw [s1, if_pos q]
      split <;> rfl
    · rw [if_pos q] at z
      split at z <;> omega
  · have eW : (if cO t p (h 2).toNat c g = 0 then J 3 else J 0) = J (if cO t p (h 2).toNat c g = 0 then 3 else 0) := by split <;> rfl
    rw [eW] at r1
    rw [if_neg q]
    refine ⟨_, _, r1 q, ?_, fun _ => ⟨?_, ?_, ?_, ?_⟩⟩
    · exact eqX_tr (eqX_bgN _ _ _) (eqX_fdC _ _ _ _)
    · rw [e0]
      rfl
    · rfl
    · rfl
    · have rG := oN_rng (i := (h 2).toNat) hV.2.2.1
      rw [← sgK_congr h9 hag]
      refine rowM_mk hR hX ?_
      exact (sgV_K hV.2.2.1 (by omega)).2.1
def fG (h c g t p : Nat → Int) (w : Int) : Int := if gW h c = 0 then mN (gM h c g t p) w else -1
def fP (h c g t p : Nat → Int) (w : Int) : Int := if pW h c g t p = 0 then mN (pM h c g t p) w else -1
theorem stV_P {h c g t p : Nat → Int} {M : Nat → Nat → Int} (hV : stV h c g t p M) : 1 ≤ g 4 ∧ g 4 ≤ 16 := hV.2.2.1.1.choose_spec.1.1.2.2.2.2.1
theorem stV_8 {h c g t p : Nat → Int} {M : Nat → Nat → Int} (hV : stV h c g t p M) : 0 ≤ g 9 ∧ g 9 ≤ g 8 ∧ g 8 ≤ 8 := hV.2.2.1.1.choose_spec.1.2.1
theorem sgK_4 {t p g : Nat → Int} {K : Int} (h : sgV t p g) (hK : K ≤ 6300002) : sgK t p K g 4 = g 4 := (sgV_K h hK).2.2
/-- what is told behind a gate -/
theorem gm_toldG {S : shp} {w : vl} {m N : Nat} {h c g t p h' c' g' : Nat → Int} {M : Nat → Nat → Int} {x : Int} (hN : 7000000 ≤ N) (hl : mdL S m) (hV : stV h c g t p M) (hW : gW h c = 0) (f11 : rw w m 11 = J (c 4)) (f12 : rw w m 12 = J ((tkN (h 1).toNat c) 4)) (f13 : rw w m 13 = J (gO t p (h 1).toNat c g)) (r1 : rw w (m + 1) 1 = J (c 0)) (r4 : rw w (m + 1) 4 = J (g 4)) (r5 : rw w (m + 1) 5 = J (h 1)) (r6 : rw w (m + 1) 6 = J (h 2)) (r7 : rw w (m + 1) 7 = J (h 3)) (hx : 0 ≤ x ∧ x ≤ 7) :
    F_gm_told N m (J 0) (J x) S w = some (J (mN (gM h c g t p) x)) ∧ F_gm_madeValue m (J 0) S w = some (J (gM h c g t p 4)) := by
  have hm := gM_V hV.1 hV.2.1 hV.2.2.1 hV.2.2.2.1 hV.2.2.2.2.1 hW
  have h3 := hm.2.2.2.1
  have h3' : 0 ≤ gO t p (h 1).toNat c g ∧ gO t p (h 1).toNat c g ≤ 2100000 := h3
  obtain ⟨hv0, hv1, hv2, hv3, hv5⟩ := hV.1
  have mv := (gm_madeValue (c := c) hl f13 r1 r4 r5 r6 r7 hV.2.1.1.1 (stV_P hV) (by omega) hv1 hv2 hv3).1
  refine ⟨?_, mv⟩
  have := gm_told (c := c) (P := 1) (show 100 ≤ N by omega) hl f11 f12 f13 r5 r6 r7 (by omega) (Or.inl rfl) mv hx
  rw [this]
  rfl
theorem gm_toldP {S : shp} {w : vl} {m N : Nat} {h c g t p : Nat → Int} {M : Nat → Nat → Int} {x : Int} (hN : 7000000 ≤ N) (hl : mdL S m) (hV : stV h c g t p M) (hW : pW h c g t p = 0) (f11 : rw w m 11 = J (oN t p 0 g)) (f12 : rw w m 12 = J (oN t p (h 2).toNat g)) (f13 : rw w m 13 = J (cO t p (h 2).toNat c g)) (r1 : rw w (m + 1) 1 = J (c 0)) (r4 : rw w (m + 1) 4 = J (g 4)) (r5 : rw w (m + 1) 5 = J (h 1)) (r6 : rw w (m + 1) 6 = J (h 2)) (r7 : rw w (m + 1) 7 = J (h 3)) (hx : 0 ≤ x ∧ x ≤ 7) :
    F_gm_told N m (J 1) (J x) S w = some (J (mN (pM h c g t p) x)) ∧ F_gm_madeValue m (J 1) S w = some (J (pM h c g t p 4)) := by
  have hm := pM_V hV.1 hV.2.1 hV.2.2.1 hW
  have h3 := hm.2.2.2.1
  have h3' : 0 ≤ cO t p (h 2).toNat c g ∧ cO t p (h 2).toNat c g ≤ 2100000 := h3
  obtain ⟨hv0, hv1, hv2, hv3, hv5⟩ := hV.1
  have h1 : 1 ≤ cO t p (h 2).toNat c g := (hm.2.2.2.2.2.2.2 rfl).1
  have mv := (gm_madeValue (c := c) hl f13 r1 r4 r5 r6 r7 hV.2.1.1.1 (stV_P hV) (by omega) hv1 hv2 hv3).2 h1
  refine ⟨?_, mv⟩
  have := gm_told (c := c) (P := 1) (show 100 ≤ N by omega) hl f11 f12 f13 r5 r6 r7 (by omega) (Or.inr rfl) mv hx
  rw [this]
  rfl
theorem gm_foretold {S : shp} {v : vl} {m N : Nat} {h c g t p : Nat → Int} {M : Nat → Nat → Int} {x : Int} (hN : 7000000 ≤ N) (hl : mdL S m) (hR : rowM (rw v (m + 1)) h c g t p M) (hV : stV h c g t p M) (hx : 0 ≤ x ∧ x ≤ 7) :
    (∃ v', F_gm_foretold N m (J 0) (J x) S v = some (J (fG h c g t p x), v') ∧ mq m v v') ∧ ∃ v', F_gm_foretold N m (J 1) (J x) S v = some (J (fP h c g t p x), v') ∧ mq m v v' := by
  have ne : m + 1 ≠ m + 3 := by omega
  have h8 := stV_8 hV
  have h5 := hV.1.2.2.2.2
  have hR1 : rowM (rw (wr v (m + 3) (cpR (rw v (m + 1)) (rw v (m + 3)) 0 0 199)) (m + 1)) h c g t p M := by rw [rw_wr_ne ne]; exact hR
  have eqm : rw (wr v (m + 3) (cpR (rw v (m + 1)) (rw v (m + 3)) 0 0 199)) m = rw v m := rw_wr_ne (by omega)
  constructor
  · obtain ⟨f', R', s1, s2, s3⟩ := gm_measG hN hl hR1 hV
    rw [eqm] at s2
    have fin : ∀ y : Int32, ∃ v', F_gm_back N m y S (wr (wr (wr v (m + 3) (cpR (rw v (m + 1)) (rw v (m + 3)) 0 0 199)) m f') (m + 1) R') = some (y, v') ∧ mq m v v' := by
      intro y
      rw [gm_back (by omega) hl]
      refine ⟨_, rfl, mq_back s2 (fun k hk => cpR_lt hk) (fun k hk => ?_)⟩
      rw [cpR_lt hk, rw_wr_ne (by omega), rw_wr_ne (by omega), rw_wr]
    unfold F_gm_foretold
    rw [grd_true _ hl.1, gm_thinks (by omega) hl]
    simp only [Option.bind_some]
    unfold F_gm_measures
    rw [if_pos rfl, grd_true _ hl.1, s1]
    simp only [Option.bind_some]
    have eW : (J (gW h c) = J 0) ↔ gW h c = 0 := J_eq (by unfold gW; split <;> omega) (by decide)
    unfold fG
    by_cases q : gW h c = 0
    · rw [if_pos (eW.mpr q), if_pos q]
      obtain ⟨k11, k12, k13, -, -, kR⟩ := s3 q
      have t1 := (gm_toldG (w := wr (wr (wr v (m + 3) (cpR (rw v (m + 1)) (rw v (m + 3)) 0 0 199)) m f') (m + 1) R') (h' := h) (c' := c) (g' := g) hN hl hV q (by rw [rw_wr_ne (by omega), rw_wr]; exact k11) (by rw [rw_wr_ne (by omega), rw_wr]; exact k12) (by rw [rw_wr_ne (by omega), rw_wr]; exact k13)
        (by rw [rw_wr, kR.1 1 (by decide)]; show J ((tkN ((h 1).toNat + 1) c) 0) = _; rw [(tkN_inv hV.2.1.1 ((h 1).toNat + 1)).2.2.2.2.1])
        (by rw [rw_wr, kR.1 4 (by decide)]; show J (gG t p (h 1).toNat c g 4) = _; rw [show gG t p (h 1).toNat c g 4 = g 4 from sgK_4 hV.2.2.1 (by have := gW_0.mp q; omega)])
        (by rw [rw_wr, kR.1 5 (by decide)]; rfl) (by rw [rw_wr, kR.1 6 (by decide)]; rfl) (by rw [rw_wr, kR.1 7 (by decide)]; rfl) hx).1
      rw [t1]
      simp only [Option.bind_some]
      obtain ⟨v', p1, p2⟩ := fin (J (mN (gM h c g t p) x))
      rw [p1]
      exact ⟨v', rfl, p2⟩
    · rw [if_neg (fun z => q (eW.mp z)), if_neg q]
      obtain ⟨v', p1, p2⟩ := fin (J (-1))
      rw [p1]
      exact ⟨v', rfl, p2⟩
  · obtain ⟨f', R', s1, s2, s3⟩ := gm_measP hN hl hR1 hV
    rw [eqm] at s2
    have fin : ∀ y : Int32, ∃ v', F_gm_back N m y S (wr (wr (wr v (m + 3) (cpR (rw v (m + 1)) (rw v (m + 3)) 0 0 199)) m f') (m + 1) R') = some (y, v') ∧ mq m v v' := by
      intro y
      rw [gm_back (by omega) hl]
      refine ⟨_, rfl, mq_back s2 (fun k hk => cpR_lt hk) (fun k hk => ?_)⟩
      rw [cpR_lt hk, rw_wr_ne (by omega), rw_wr_ne (by omega), rw_wr]
    unfold F_gm_foretold
    rw [grd_true _ hl.1, gm_thinks (by omega) hl]
    simp only [Option.bind_some]
    unfold F_gm_measures
    rw [if_neg (by decide), grd_true _ hl.1, s1]
    simp only [Option.bind_some]
    have eW : (J (pW h c g t p) = J 0) ↔ pW h c g t p = 0 := J_eq (by unfold pW; split <;> (split <;> omega)) (by decide)
    unfold fP
    by_cases q : pW h c g t p = 0
    · rw [if_pos (eW.mpr q), if_pos q]
      obtain ⟨k11, k12, k13, kR⟩ := s3 q
      have rG := oN_rng (i := (h 2).toNat) hV.2.2.1
      have t1 := (gm_toldP (w := wr (wr (wr v (m + 3) (cpR (rw v (m + 1)) (rw v (m + 3)) 0 0 199)) m f') (m + 1) R') hN hl hV q (by rw [rw_wr_ne (by omega), rw_wr]; exact k11) (by rw [rw_wr_ne (by omega), rw_wr]; exact k12) (by rw [rw_wr_ne (by omega), rw_wr]; exact k13)
        (by rw [rw_wr, kR.1 1 (by decide)]; show J (ckK (oN t p (h 2).toNat g) c 0) = _; rw [(ckV_K hV.2.1 (by omega)).2.2.2])
        (by rw [rw_wr, kR.1 4 (by decide)]; show J (sgK t p (3 * oN t p (h 2).toNat g + 2) g 4) = _; rw [sgK_4 hV.2.2.1 (by omega)])
        (by rw [rw_wr, kR.1 5 (by decide)]; rfl) (by rw [rw_wr, kR.1 6 (by decide)]; rfl) (by rw [rw_wr, kR.1 7 (by decide)]; rfl) hx).1
      rw [t1]
      simp only [Option.bind_some]
      obtain ⟨v', p1, p2⟩ := fin (J (mN (pM h c g t p) x))
      rw [p1]
      exact ⟨v', rfl, p2⟩
    · rw [if_neg (fun z => q (eW.mp z)), if_neg q]
      obtain ⟨v', p1, p2⟩ := fin (J (-1))
      rw [p1]
      exact ⟨v', rfl, p2⟩
end TOLD
