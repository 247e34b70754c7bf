/-! Dropping a measurement. -/
section DROP
variable {S : shp} {v : vl} {a b m N q : Nat} {h c g t p X : Nat → Int} {M : Nat → Nat → Int} {now : sta} {sv : Option sta} {ps : List sta} {re ca ch : Int}
def drS (i : Nat) (s : sta) : sta := (fun k => if k = 5 then s.1 5 - 1 else s.1 k, s.2.1, s.2.2.1, s.2.2.2.1, s.2.2.2.2.1, fun j => if j < i then s.2.2.2.2.2 j else s.2.2.2.2.2 (j + 1))
def dropO (s : full) (i : Int) : Nat ⊕ (Int × full) := if 0 ≤ i ∧ i < s.1.1 5 then .inr (s.1.1 5 - 1, (drS i.toNat s.1, s.2.1, keepP s.1 s.2.2.1, s.2.2.2)) else .inl 1
theorem drS_V {i : Nat} (hs : sV now) (hi : (i : Int) < now.1 5) : sV (drS i now) := by
  obtain ⟨⟨v0, v1, v2, v3, v5⟩, hc, hg, hu, hT, hM⟩ := hs
  refine ⟨⟨v0, v1, v2, v3, ?_⟩, hc, hg, hu, hT, fun j hj => ?_⟩
  · show 0 ≤ now.1 5 - 1 ∧ now.1 5 - 1 ≤ 20
    omega
  · have hj' : (j : Int) < now.1 5 - 1 := hj
    show msV (if j < i then now.2.2.2.2.2 j else now.2.2.2.2.2 (j + 1))
    split
    · exact hM j (by omega)
    · exact hM (j + 1) (by omega)
theorem gc_drop {i : Int} (hN : 100 ≤ N) (hw : wfS S) (hR : cR S v a now sv ps re ca ch q) (hq : q ≤ 1000) (hi : -2147483648 ≤ i ∧ i < 2147483648) :
    UC (F_gc_drop N a (J i) S v) (fun c => c) (dropO (now, sv, ps, re, ca, ch) i) a (q + 1) S v := by
  obtain ⟨h, c, g, t, p, M⟩ := now
  obtain ⟨k0, -⟩ := cR_now hR
  obtain ⟨f1, f2⟩ := gc_found hR hi
  unfold F_gc_drop dropO
  rw [grd_true _ k0]
  by_cases z : 0 ≤ i ∧ i < h 5
  · obtain ⟨r, s1, s2, s3⟩ := f1 z
    obtain ⟨S1, v1, e1, w1, R1, G1⟩ := gc_keep hN hw hR hq
    obtain ⟨k0', g5', n0', -⟩ := cR_now R1
    have hs := R1.2.1.2
    have hv5 : 0 ≤ h 5 ∧ h 5 ≤ 20 := hs.1.2.2.2.2
    have ni : ((i.toNat : Nat) : Int) = i := by omega
    have hi5 : ((i.toNat : Nat) : Int) < h 5 := by omega
    obtain ⟨S2, v2, e2, M2, N2, X2⟩ := st_forget (i := i.toNat) hN R1.2.1.1.1 R1.2.1.1.2 hi5 hv5.2
    obtain ⟨w2, R2⟩ := cR_put (now' := drS i.toNat (h, c, g, t, p, M)) R1 w1 X2 ⟨M2, N2⟩ (drS_V hs hi5)
    obtain ⟨q0, q5, qn, -⟩ := cR_now (h := fun k => if k = 5 then h 5 - 1 else h k) (c := c) (g := g) (t := t) (p := p) R2
    have r5 : rw v2 (a + 11) 5 = J (h 5 - 1) := M2.2.1 5 (by decide)
    rw [ni] at e2
    rw [s1, bx_r, if_pos z]
    simp only [oc2, e1, Option.bind_some, g5']
    rw [grd_true _ n0', e2]
    simp only [Option.bind_some]
    rw [q5]
    simp only [Option.bind_some]
    rw [grd_true _ qn, gi_rw, r5]
    exact ⟨S2, v2, rfl, w2, R2, exg_0 (exg_tr G1 (exg_exi X2 (by omega) (Nat.le_refl _) (Nat.le_refl _)))⟩
  · rw [f2 z, bx_l, if_neg z]
    rfl
theorem gm_drop {i : Int} (hN : 100000 ≤ N) (hR : dR S v m now sv ps re ca ch) (hs : sV now) (hp : psV ps) (hi : -2147483648 ≤ i ∧ i < 2147483648) :
    UM (F_gm_drop N m (J i) S v) (now, sv, ps, re, ca, ch) (dropO (now, sv, ps, re, ca, ch) i) S v m := by
  obtain ⟨h, c, g, t, p, M⟩ := now
  have hl := hR.1
  have h1 : rowM (rw v (m + 1)) h c g t p M := hR.2.1
  have hv5 : 0 ≤ h 5 ∧ h 5 ≤ 20 := hs.1.2.2.2.2
  have h88 := (stV_8 (h := h) (c := c) (g := g) (t := t) (p := p) (M := M) hs).2.2
  have n1 : ¬ J 1 = J 0 := by decide
  have r22 : rw v (m + 1) 22 = J (h 5) := h1.1 22 (by decide)
  unfold F_gm_drop dropO
  rw [grd_true _ hl.1]
  simp only [lt_def, si_th]
  rw [gm_noMeas (h := h) hl (by rw [rw_th (by omega)]; exact r22) hv5 hi]
  simp only [Option.bind_some]
  by_cases z : 0 ≤ i ∧ i < h 5
  · obtain ⟨n, en⟩ : ∃ n : Nat, (n : Int) = i := ⟨i.toNat, by omega⟩
    obtain ⟨K, eK⟩ : ∃ K : Nat, (K : Int) = h 5 - 1 - i := ⟨(h 5 - 1 - i).toNat, by omega⟩
    obtain ⟨P, eP⟩ : ∃ P, P = cpR (rw v (m + 1)) (rw v (m + 1)) (39 + 8 * (n + 1)) (39 + 8 * n) (8 * K) := ⟨_, rfl⟩
    have hP : rwM (up P 22 (J (h 5 - 1))) (drS i.toNat (h, c, g, t, p, M)) := by
      have lo : ∀ k, k < 39 → k ≠ 22 → up P 22 (J (h 5 - 1)) k = rw v (m + 1) k := fun k hk h22 => by
        rw [up_ne h22, eP]
        unfold cpR
        rw [if_neg (by omega)]
      refine ⟨fun k k23 => ?_, fun j hj => ?_, fun j hj w hw => ?_⟩
      · by_cases k22 : k = 22
        · subst k22
          rw [up_same]
          rfl
        · rw [lo k (by omega) k22, h1.1 k k23]
          match k, k23, k22 with
          | 0, _, _ => rfl
          | 1, _, _ => rfl
          | 2, _, _ => rfl
          | 3, _, _ => rfl
          | 4, _, _ => rfl
          | 5, _, _ => rfl
          | 6, _, _ => rfl
          | 7, _, _ => rfl
          | 8, _, _ => rfl
          | 9, _, _ => rfl
          | 10, _, _ => rfl
          | 11, _, _ => rfl
          | 12, _, _ => rfl
          | 13, _, _ => rfl
          | 14, _, _ => rfl
          | 15, _, _ => rfl
          | 16, _, _ => rfl
          | 17, _, _ => rfl
          | 18, _, _ => rfl
          | 19, _, _ => rfl
          | 20, _, _ => rfl
          | 21, _, _ => rfl
          | 22, _, h => exact absurd rfl h
          | k + 23, h, _ => exact absurd h (by omega)
      · have hj' : (j : Int) < g 8 := hj
        rw [lo _ (by omega) (by omega), lo _ (by omega) (by omega)]
        exact h1.2.1 j hj
      · have hj' : (j : Int) < h 5 - 1 := hj
        rw [up_ne (by omega), eP]
        show cpR (rw v (m + 1)) (rw v (m + 1)) (39 + 8 * (n + 1)) (39 + 8 * n) (8 * K) (39 + 8 * j + w) = J (mN (if j < i.toNat then M j else M (j + 1)) w)
        unfold cpR
        by_cases y : j < i.toNat
        · rw [if_neg (by omega), if_pos y]
          exact h1.2.2 j (by omega) w hw
        · rw [if_pos (by omega), if_neg y, ← h1.2.2 (j + 1) (by omega) w hw]
          congr 1
          omega
    obtain ⟨v1, e1, e2, e3, e4, e5⟩ := gm_keepRow (x := 0) (now' := drS i.toNat (h, c, g, t, p, M)) hN hR hs hp hP
    have cc := gm_copies (S := S) (v := v1) (a := m + 1) (b := m + 1) (i := 39 + 8 * (n + 1)) (j := 39 + 8 * n) (cnt := 8 * K) hN hl.2.2.1 hl.2.2.1 (by omega) (by omega) (by decide) (by decide) (Or.inr (by omega))
    rw [e2, ← eP] at cc
    have P22 : P 22 = J (h 5) := by
      rw [eP]
      unfold cpR
      rw [if_neg (by omega)]
      exact r22
    rw [if_pos z, if_pos z]
    simp only [if_true]
    rw [e1]
    simp only [Option.bind_some]
    rw [hl.2.1]
    simp only [Option.bind_some]
    unfold F_gm_at
    simp only [Option.bind_some]
    rw [grd_true _ hl.2.2.1, gi_rw, e2, r22, show J 39 + J 8 * (J i + J 1) = J ((39 + 8 * (n + 1) : Nat) : Int) by rw [← J_add, ← J_mul, ← J_add]; congr 1; omega, show J 39 + J 8 * J i = J ((39 + 8 * n : Nat) : Int) by rw [← J_mul, ← J_add]; congr 1; omega, show J 8 * (J (h 5) - J 1 - J i) = J ((8 * K : Nat) : Int) by rw [← J_sub, ← J_sub, ← J_mul]; congr 1; omega, cc]
    simp only [Option.bind_some, lt_def, si_wr, gi_x, rw_wr, wr_wr, P22]
    rw [← J_sub, up_same]
    exact ⟨_, rfl, e3, e4, e5⟩
  · rw [if_neg z, if_neg z]
    simp only [n1, if_false]
    rw [th_th]
    exact ⟨_, rfl, dR_th hR hs, mch_th, th10⟩
end DROP
