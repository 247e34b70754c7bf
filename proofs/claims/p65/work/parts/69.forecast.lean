/-! The class's forecasts. -/
section FORECAST
/-- whole calls of the class: row a, and its states, alone have changed -/
def exg (a k l : Nat) (S : shp) (v : vl) (S' : shp) (v' : vl) : Prop := (∀ x, x < nxt S → v'.2 x = v.2 x) ∧ (∀ x, x ≠ a → (x < a + 11 ∨ a + 84 ≤ x) → x < nxt S → rw v' x = rw v x ∧ ∀ j, gr S' x j = gr S x j) ∧ (∀ x, x < nxt S → kin S' x = kin S x) ∧ kad S' = kad S ∧ bas S' = bas S ∧ (cn S ≤ cn S' ∧ cn S' ≤ cn S + k) ∧ (cz S ≤ cz S' ∧ cz S' ≤ cz S + l)
theorem exg_exi {a b k l k' l' : Nat} {S S' : shp} {v v' : vl} (h : exi b 6 k l S v S' v') (hb : a + 11 ≤ b ∧ b + 6 ≤ a + 84) (hk : k ≤ k') (hl : l ≤ l') : exg a k' l' S v S' v' := by
  obtain ⟨a1, a2, a3, a4, a5, a6, a7, -⟩ := h
  exact ⟨a1, fun x _ h1 h2 => a2 x (by omega) h2, a3, a4, a5, by omega, by omega⟩
theorem exg_tr {a k l k' l' : Nat} {S S1 S2 : shp} {v v1 v2 : vl} (h1 : exg a k l S v S1 v1) (h2 : exg a k' l' S1 v1 S2 v2) : exg a (k + k') (l + l') S v S2 v2 := by
  obtain ⟨a1, a2, a3, a4, a5, a6, a7⟩ := h1
  obtain ⟨c1, c2, c3, c4, c5, c6, c7⟩ := h2
  have hn : nxt S ≤ nxt S1 := by unfold nxt; omega
  refine ⟨fun x hx => (c1 x (by omega)).trans (a1 x hx), fun x h0 h1 h2 => ?_, fun x hx => (c3 x (by omega)).trans (a3 x hx), c4.trans a4, c5.trans a5, by omega, by omega⟩
  obtain ⟨x1, x2⟩ := a2 x h0 h1 h2
  obtain ⟨y1, y2⟩ := c2 x h0 h1 (by omega)
  exact ⟨y1.trans x1, fun j => (y2 j).trans (x2 j)⟩
theorem exg_mono {a k l k' l' : Nat} {S S' : shp} {v v' : vl} (h : exg a k l S v S' v') (hk : k ≤ k') (hl : l ≤ l') : exg a k' l' S v S' v' := by
  obtain ⟨a1, a2, a3, a4, a5, a6, a7⟩ := h
  exact ⟨a1, a2, a3, a4, a5, by omega, by omega⟩
theorem exg_wr {a : Nat} {S : shp} {v : vl} {f : Nat → Int32} : exg a 0 0 S v S (wr v a f) := ⟨fun _ _ => rfl, fun x h0 _ _ => ⟨rw_wr_ne h0, fun _ => rfl⟩, fun _ _ => rfl, rfl, rfl, ⟨Nat.le_refl _, Nat.le_refl _⟩, ⟨Nat.le_refl _, Nat.le_refl _⟩⟩
/-- behind a call of the class -/
def PC (a : Nat) (now : sta) (sv : Option sta) (ps : List sta) (re ca ch : Int) (q : Nat) (S : shp) (v : vl) (S' : shp) (v' : vl) : Prop := wfS S' ∧ cR S' v' a now sv ps re ca ch q ∧ exg a 20 400 S v S' v'
variable {S : shp} {v : vl} {a m N q : Nat} {h c g t p : Nat → Int} {M : Nat → Nat → Int} {sv : Option sta} {ps : List sta} {re ca ch : Int}
theorem scr_P {S' : shp} {v' : vl} {b k l : Nat} (hR : cR S v a (h, c, g, t, p, M) sv ps re ca ch q) (hw : wfS S) (hb : b = a + 17 ∨ b = a + 23) (hs : stL S' b) (he : exi b 6 k l S v S' v') (hk : k ≤ 20) (hl : l ≤ 400) : PC a (h, c, g, t, p, M) sv ps re ca ch q S v S' v' :=
  ⟨exi_wf he hw, cR_exi hR hw (by omega) hs he, exg_exi he (by omega) hk hl⟩
theorem fresh_R {b : Nat} (hN : 100 ≤ N) (hw : wfS S) (hR : cR S v a (h, c, g, t, p, M) sv ps re ca ch q) (hb : b = a + 17 ∨ b = a + 23) :
    ∃ S' v', F_gc_fresh N a b S v = some (some b, S', v') ∧ stA S' v' b (h, c, g, t, p, M) ∧ cR S' v' a (h, c, g, t, p, M) sv ps re ca ch q ∧ wfS S' ∧ exi b 6 0 0 S v S' v' := by
  obtain ⟨S', v', s1, s2, s3⟩ := gc_fresh (N := N) hN hw hR.1 hR.2.1.1 hR.2.1.2 hb
  exact ⟨S', v', s1, s2, cR_exi hR hw (by omega) s2.1.1 s3, exi_wf s3 hw, s3⟩
theorem gr67 (hL : gcL S a) : gr S a 6 = some (a + 17) ∧ gr S a 7 = some (a + 23) ∧ gr S a 8 = some (a + 29) ∧ gr S a 10 = some (a + 35) := ⟨hL.1.2.2.2.2.1, hL.1.2.2.2.2.2.1, hL.1.2.2.2.2.2.2.1, hL.1.2.2.2.2.2.2.2⟩
-- measurements that are forecast
theorem kpM_last {n : Int} {z : Nat → Int} (hn : 0 ≤ n ∧ n ≤ 20) : kpM n M z (kpN n - 1).toNat = z := by
  unfold kpM kpN
  by_cases y : n < 20
  · rw [if_pos y, if_pos y, if_pos (by omega)]
  · rw [if_neg y, if_neg y, if_pos (by decide)]
theorem kpM_V {n : Int} {z : Nat → Int} (hn : 0 ≤ n ∧ n ≤ 20) (hM : ∀ i : Nat, (i : Int) < n → msV (M i)) (hz : msV z) : ∀ i : Nat, (i : Int) < kpN n → msV (kpM n M z i) := by
  intro i hi
  unfold kpN at hi
  unfold kpM
  by_cases y : n < 20
  · rw [if_pos y] at hi ⊢
    split
    · exact hz
    · exact hM i (by omega)
  · rw [if_neg y] at hi ⊢
    split
    · exact hz
    · exact hM (i + 1) (by omega)
theorem st_latest_kp {S : shp} {v : vl} {b : Nat} {h' : Nat → Int} {n w : Int} {z : Nat → Int} (hN : 100 ≤ N) (hl : stL S b) (h5 : rw v b 5 = J (kpN n)) (hn : 0 ≤ n ∧ n ≤ 20) (hm : msR S v (b + 5) (kpN n) (kpM n M z)) (hM : ∀ i : Nat, (i : Int) < n → msV (M i)) (hz : msV z) (hw : 0 ≤ w ∧ w ≤ 7) : F_st_latestNumber N b (J w) S v = some (J (mN z w)) := by
  have hk : 1 ≤ kpN n ∧ kpN n ≤ 20 := by unfold kpN; split <;> omega
  have := st_latest (h := fun _ => kpN n) (M := kpM n M z) hN hl h5 hk hm (kpM_V hn hM hz) hw
  rw [this]
  show some (J (mN (kpM n M z (kpN n - 1).toNat) w)) = _
  rw [kpM_last hn]
end FORECAST
