/-! Setting the prescale. -/
section SETP
variable {S : shp} {v : vl} {a b m N q : Nat} {h c g t p X : Nat → Int} {M : Nat → Nat → Int} {now : sta} {sv : Option sta} {ps : List sta} {re ca ch : Int}
def psS (P : Int) (s : sta) : sta := (s.1, s.2.1, psG s.2.2.1 P, s.2.2.2)
def isP (n : Int) : Prop := n = 1 ∨ n = 2 ∨ n = 4 ∨ n = 8 ∨ n = 16
theorem gc_isPloop {n : Int} (hT : tPs S v a) (hn : -2147483648 ≤ n ∧ n < 2147483648) : ∀ (f F i : Nat), i + f = 5 → f < F →
    ∃ x : Int, K_gc_isPrescale_9 N F S v (J n) (kad S 0) (J 5) (J (i : Int)) = some (J x) ∧ ((x = 1 ∧ ∃ j, i ≤ j ∧ j < 5 ∧ n = pv j) ∨ (x = 0 ∧ ¬ ∃ j, i ≤ j ∧ j < 5 ∧ n = pv j))
  | _, 0, i, _, h => absurd h (Nat.not_lt_zero _)
  | 0, F + 1, i, hi, hF => by
    refine ⟨0, ?_, Or.inr ⟨rfl, fun ⟨j, j1, j2, _⟩ => by omega⟩⟩
    show Y_gc_isPrescale_9 N (K_gc_isPrescale_9 N F S v) S v (J n) (kad S 0) (J 5) (J (i : Int)) = _
    unfold Y_gc_isPrescale_9
    rw [if_neg (fun z => by have := (J_lt (by omega) (by decide)).mp z; omega)]
  | f + 1, F + 1, i, hi, hF => by
    obtain ⟨T1, T2, T3⟩ := id hT
    have ti : (J (i : Int)).toInt = i := J_toInt (by omega) (by omega)
    have hP := pv_B i
    have e : K_gc_isPrescale_9 N (F + 1) S v (J n) (kad S 0) (J 5) (J (i : Int)) = if J n = J (pv i) then some (J 1) else K_gc_isPrescale_9 N F S v (J n) (kad S 0) (J 5) (J ((i + 1 : Nat) : Int)) := by
      show Y_gc_isPrescale_9 N (K_gc_isPrescale_9 N F S v) S v (J n) (kad S 0) (J 5) (J (i : Int)) = _
      unfold Y_gc_isPrescale_9
      rw [if_pos ((J_lt (by omega) (by decide)).mpr (by omega)), grd_true _ T1, grd_true _ (vin_of T1 ti (by omega)), clampT ti, gi_rw, T3 i (by omega), lt_def, J_s]
    rw [e]
    by_cases y : n = pv i
    · rw [if_pos (by rw [y])]
      exact ⟨1, rfl, Or.inl ⟨rfl, i, Nat.le_refl _, by omega, y⟩⟩
    · rw [if_neg (fun z => y ((J_eq hn (by omega)).mp z))]
      obtain ⟨x, e1, e2⟩ := gc_isPloop hT hn f F (i + 1) (by omega) (by omega)
      refine ⟨x, e1, ?_⟩
      rcases e2 with ⟨x1, j, j1, j2, j3⟩ | ⟨x0, hno⟩
      · exact Or.inl ⟨x1, j, by omega, j2, j3⟩
      · refine Or.inr ⟨x0, fun ⟨j, j1, j2, j3⟩ => ?_⟩
        by_cases q : j = i
        · rw [q] at j3; exact y j3
        · exact hno ⟨j, by omega, j2, j3⟩
theorem isP_pv {n : Int} : isP n ↔ ∃ j, 0 ≤ j ∧ j < 5 ∧ n = pv j := by
  unfold isP
  constructor
  · intro h
    rcases h with h | h | h | h | h
    · exact ⟨0, by decide, by decide, h⟩
    · exact ⟨1, by decide, by decide, h⟩
    · exact ⟨2, by decide, by decide, h⟩
    · exact ⟨3, by decide, by decide, h⟩
    · exact ⟨4, by decide, by decide, h⟩
  · rintro ⟨j, -, j2, j3⟩
    match j, j2, j3 with
    | 0, _, h => exact Or.inl h
    | 1, _, h => exact Or.inr (Or.inl h)
    | 2, _, h => exact Or.inr (Or.inr (Or.inl h))
    | 3, _, h => exact Or.inr (Or.inr (Or.inr (Or.inl h)))
    | 4, _, h => exact Or.inr (Or.inr (Or.inr (Or.inr h)))
    | j + 5, h, _ => exact absurd h (by omega)
theorem gc_isPrescale {n : Int} (hN : 100 ≤ N) (hT : tPs S v a) (hn : -2147483648 ≤ n ∧ n < 2147483648) : (isP n → F_gc_isPrescale N (J n) S v = some (J 1)) ∧ (¬ isP n → F_gc_isPrescale N (J n) S v = some (J 0)) := by
  have e5 : nI (alen S (kad S 0)) = J 5 := by rw [alen_of hT.1]; rfl
  obtain ⟨x, e1, e2⟩ := gc_isPloop (N := N) hT hn 5 N 0 (by decide) (by omega)
  have e : F_gc_isPrescale N (J n) S v = some (J x) := by
    unfold F_gc_isPrescale
    rw [grd_true _ hT.1, e5]
    exact e1
  rw [e]
  rcases e2 with ⟨x1, hj⟩ | ⟨x0, hno⟩
  · rw [x1]
    exact ⟨fun _ => rfl, fun z => absurd (isP_pv.mpr hj) z⟩
  · rw [x0]
    exact ⟨fun z => absurd (isP_pv.mp z) hno, fun _ => rfl⟩
theorem isP_B {n : Int} (h : isP n) : 1 ≤ n ∧ n ≤ 16 := by
  unfold isP at h
  omega
theorem psS_V {P : Int} (hs : sV now) (hP : 1 ≤ P ∧ P ≤ 16) : sV (psS P now) := psG_st (h := now.1) (c := now.2.1) (g := now.2.2.1) (t := now.2.2.2.1) (p := now.2.2.2.2.1) (M := now.2.2.2.2.2) hs hP
/-- what setting the prescale gives -/
def spO (s : full) (n : Int) (o : Nat ⊕ (Int × full)) : Prop := (isP n → o = .inr (s.1.2.2.1 4, (psS n s.1, s.2.1, keepP s.1 s.2.2.1, s.2.2.2))) ∧ (¬ isP n → o = .inl 1)
theorem gc_setPrescale {n : Int} {o : Nat ⊕ (Int × full)} (hN : 100 ≤ N) (hw : wfS S) (hR : cR S v a now sv ps re ca ch q) (hq : q ≤ 1000) (hT : tPs S v a) (hn : -2147483648 ≤ n ∧ n < 2147483648) (ho : spO (now, sv, ps, re, ca, ch) n o) :
    UC (F_gc_setPrescale N a (J n) S v) f10 o a (q + 1) S v := by
  obtain ⟨i1, i2⟩ := gc_isPrescale (N := N) (by omega) hT hn
  have k0 := hR.1.1.1
  unfold F_gc_setPrescale F_gc_require
  by_cases z : isP n
  · obtain ⟨S1, v1, e1, w1, R1, G1⟩ := gc_keep hN hw hR hq
    obtain ⟨k0', g5', n0', r6', n1', r7', n2', hh', hc', hg'⟩ := cR_now (h := now.1) (c := now.2.1) (g := now.2.2.1) (t := now.2.2.2.1) (p := now.2.2.2.2.1) (M := now.2.2.2.2.2) R1
    obtain ⟨f, s1, M1⟩ := st_setUp (P := n) R1.2.1.1.1
    have F1 : fri (a + 11) 6 v1 (wr v1 (a + 11 + 2) f) := fri_wr (by omega)
    have N1 := msR_fri R1.2.1.1.2 R1.2.1.1.1.1 F1
    obtain ⟨w2, R2⟩ := cR_put (now' := psS n now) R1 w1 (exi_fri F1) ⟨M1, N1⟩ (psS_V R1.2.1.2 (isP_B z))
    rw [ho.1 z, i1 z]
    simp only [Option.bind_some]
    rw [if_neg (by decide), bx_r, grd_true _ k0, e1]
    simp only [Option.bind_some]
    rw [g5']
    simp only [Option.bind_some]
    rw [grd_true _ n0', r7']
    simp only [Option.bind_some]
    rw [grd_true _ n2', s1]
    simp only [Option.bind_some]
    rw [gi_rw, hg' 4 (by decide)]
    exact ⟨S1, _, rfl, w2, R2, exg_0 (exg_tr G1 (exg_exi (exi_fri F1) (by omega) (Nat.le_refl _) (Nat.le_refl _)))⟩
  · rw [ho.2 z, i2 z]
    simp only [Option.bind_some]
    rw [if_pos trivial, bx_l]
    rfl
end SETP
