/-! Setting the prescale. -/
section SETP
variable {S : shp} {v : vl} {a b m N q : Nat} {h c g t p X : Nat → Int} {M : Nat → Nat → Int} {now : sta} {sv : Option sta} {ps : List sta} {re ca ch : Int}
def psS (P : Int) (s : sta) : sta := (s.1, s.2.1, psG s.2.2.1 P, s.2.2.2)
def isP (n : Int) : Prop := n = 1 ∨ n = 2 ∨ n = 4 ∨ n = 8 ∨ n = 16
theorem gc_isPloop {n : Int} (hT : tPs S v a) (hn : -2147483648 ≤ n ∧ n < 2147483648) : ∀ (f F i : Nat), i + f = 5 → f < F →
    ∃ x : Int, K_gc_isPrescale_9 N F S v (J n) (kad S 0) (J 5) (J (i : Int)) = some (J x) ∧ ((x = 1 ∧ ∃ j, i ≤ j ∧ j < 5 ∧ n = pv j) ∨ (x = 0 ∧ ¬ ∃ j, i ≤ j ∧ j < 5 ∧ n = pv j))
  | _, 0, i, _, h => absurd h (Nat.not_lt_zero _)
  | 0, F + 1, i, hi, hF => by
    refine ⟨0, ?_, Or.inr ⟨rfl, fun ⟨j, j1, j2, _⟩ => by omega⟩⟩
    show Y_gc_isPrescale_9 N (K_gc_isPrescale_9 N F S v) S v (J n) (kad S 0) (J 5) (J (i : Int)) = _
    unfold Y_gc_isPrescale_9
    rw [if_neg (fun z => by have := (J_lt (by omega) (by decide)).mp z; omega)]
  | f + 1, F + 1, i, hi, hF => by
    obtain ⟨T1, T2, T3⟩ := id hT
    have ti : (J (i : Int)).toInt = i := J_toInt (by omega) (by omega)
    have hP := pv_B i
    have e : K_gc_isPrescale_9 N (F + 1) S v (J n) (kad S 0) (J 5) (J (i : Int)) = if J n = J (pv i) then some (J 1) else K_gc_isPrescale_9 N F S v (J n) (kad S 0) (J 5) (J ((i + 1 : Nat) : Int)) := by
      show Y_gc_isPrescale_9 N (K_gc_isPrescale_9 N F S v) S v (J n) (kad S 0) (J 5) (J (i : Int)) = _
      unfold Y_gc_isPrescale_9
      rw [if_pos ((J_lt (by omega) (by decide)).mpr (by omega)), grd_true _ T1, grd_true _ (vin_of T1 ti (by omega)), clampT ti, gi_rw, T3 i (by omega), lt_def, J_s]
    rw [e]
    by_cases y : n = pv i
    · rw [if_pos (by rw [y])]
      exact ⟨1, rfl, Or.inl ⟨rfl, i, Nat.le_refl _, by omega, y⟩⟩
    · rw [if_neg (fun z => y ((J_eq hn (by omega)).mp z))]
      obtain ⟨x, e1, e2⟩ := gc_isPloop hT hn f F (i + 1) (by omega) (by omega)
      refine ⟨x, e1, ?_⟩
      rcases e2 with ⟨x1, j, j1, j2, j3⟩ | ⟨x0, hno⟩
      · exact Or.inl ⟨x1, j, by omega, j2, j3⟩
      · refine Or.inr ⟨x0, fun ⟨j, j1, j2, j3⟩ => ?_⟩
        by_cases q : j = i
        · rw [q] at j3; exact y j3
        · exact hno ⟨j, by omega, j2, j3⟩
theorem isP_pv {n : Int} : isP n ↔ ∃ j, 0 ≤ j ∧ j < 5 ∧ n = pv j := by
  unfold isP
  constructor
  · intro h
    rcases h with h | h | h | h | h
    · exact ⟨0, by decide, by decide, h⟩
    · exact ⟨1, by decide, by decide, h⟩
    · exact ⟨2, by decide, by decide, h⟩
    · exact ⟨3, by decide, by decide, h⟩
    · exact ⟨4, by decide, by decide, h⟩
  · rintro ⟨j, -, j2, j3⟩
    match j, j2, j3 with
    | 0, _, h => exact Or.inl h
    | 1, _, h => exact Or.inr (Or.inl h)
    | 2, _, h => exact Or.inr (Or.inr (Or.inl h))
    | 3, _, h => exact Or.inr (Or.inr (Or.inr (Or.inl h)))
    | 4, _, h => exact Or.inr (Or.inr (Or.inr (Or.inr h)))
    | j + 5, h, _ => exact absurd h (by omega)
theorem gc_isPrescale {n : Int} (hN : 100 ≤ N) (hT : tPs S v a) (hn : -2147483648 ≤ n ∧ n < 2147483648) : (isP n → F_gc_isPrescale N (J n) S v = some (J 1)) ∧ (¬ isP n → F_gc_isPrescale N (J n) S v = some (J 0)) := by
  have e5 : nI (alen S (kad S 0)) = J 5 := by rw [alen_of hT.1]; rfl
  obtain ⟨x, e1, e2⟩ := gc_isPloop (N := N) hT hn 5 N 0 (by decide) (by omega)
  have e : F_gc_isPrescale N (J n) S v = some (J x) := by
    unfold F_gc_isPrescale
    rw [grd_true _ hT.1, e5]
    exact e1
  rw [e]
  rcases e2 with ⟨x1, hj⟩ | ⟨x0, hno⟩
  · rw [x1]
    exact ⟨fun _ => rfl, fun z => absurd (isP_pv.mpr hj) z⟩
  · rw [x0]
    exact ⟨fun z => absurd (isP_pv.mp z) hno, fun _ => rfl⟩
theorem isP_B {n : Int} (h : isP n) : 1 ≤ n ∧ n ≤ 16 := by
  unfold isP at h
  omega
theorem psS_V {P : Int} (hs : sV now) (hP : 1 ≤ P ∧ P ≤ 16) : sV (psS P now) := psG_st (h := now.1) (c := now.2.1) (g := now.2.2.1) (t := now.2.2.2.1) (p := now.2.2.2.2.1) (M := now.2.2.2.2.2) hs hP
/-- what setting the prescale gives -/
def spO (s : full) (n : Int) (o : Nat ⊕ (Int × full)) : Prop := (isP n → o = .inr (s.1.2.2.1 4, (psS n s.1, s.2.1, keepP s.1 s.2.2.1, s.2.2.2))) ∧ (¬ isP n → o = .inl 1)
theorem gc_setPrescale {n : Int} {o : Nat ⊕ (Int × full)} (hN : 100 ≤ N) (hw : wfS S) (hR : cR S v a now sv ps re ca ch q) (hq : q ≤ 1000) (hT : tPs S v a) (hn : -2147483648 ≤ n ∧ n < 2147483648) (ho : spO (now, sv, ps, re, ca, ch) n o) :
    UC (F_gc_setPrescale N a (J n) S v) f10 o a (q + 1) S v := by
  obtain ⟨i1, i2⟩ := gc_isPrescale (N := N) (by omega) hT hn
  have k0 := hR.1.1.1
  unfold F_gc_setPrescale F_gc_require
  by_cases z : isP n
  · obtain ⟨S1, v1, e1, w1, R1, G1⟩ := gc_keep hN hw hR hq
    obtain ⟨k0', g5', n0', r6', n1', r7', n2', hh', hc', hg'⟩ := cR_now (h := now.1) (c := now.2.1) (g := now.2.2.1) (t := now.2.2.2.1) (p := now.2.2.2.2.1) (M := now.2.2.2.2.2) R1
    obtain ⟨f, s1, M1⟩ := st_setUp (P := n) R1.2.1.1.1
    have F1 : fri (a + 11) 6 v1 (wr v1 (a + 11 + 2) f) := fri_wr (by omega)
    have N1 := msR_fri R1.2.1.1.2 R1.2.1.1.1.1 F1
    obtain ⟨w2, R2⟩ := cR_put (now' := psS n now) R1 w1 (exi_fri F1) ⟨M1, N1⟩ (psS_V R1.2.1.2 (isP_B z))
    rw [ho.1 z, i1 z]
    simp only [Option.bind_some]
    rw [if_neg (by decide), bx_r, grd_true _ k0, e1]
    simp only [Option.bind_some]
    rw [g5']
    simp only [Option.bind_some]
    rw [grd_true _ n0', r7']
    simp only [Option.bind_some]
    rw [grd_true _ n2', s1]
    simp only [Option.bind_some]
    rw [gi_rw, hg' 4 (by decide)]
    exact ⟨S1, _, rfl, w2, R2, exg_0 (exg_tr G1 (exg_exi (exi_fri F1) (by omega) (Nat.le_refl _) (Nat.le_refl _)))⟩
  · rw [ho.2 z, i2 z]
    simp only [Option.bind_some]
    rw [if_pos trivial, bx_l]
    rfl
theorem gm_mayBeP {n : Int} (hn : -2147483648 ≤ n ∧ n < 2147483648) : (isP n → F_gm_mayBeP (J n) S v = some (J 1)) ∧ (¬ isP n → F_gm_mayBeP (J n) S v = some (J 0)) := by
  unfold F_gm_mayBeP isP
  have e : ∀ k : Int, -2147483648 ≤ k ∧ k < 2147483648 → (J n = J k ↔ n = k) := fun k hk => J_eq hn hk
  refine ⟨fun z => ?_, fun z => ?_⟩
  · rcases z with h | h | h | h | h <;> rw [h] <;> decide
  · rw [if_neg (fun y => z (Or.inl ((e 1 (by decide)).mp y))), if_neg (fun y => z (Or.inr (Or.inl ((e 2 (by decide)).mp y)))), if_neg (fun y => z (Or.inr (Or.inr (Or.inl ((e 4 (by decide)).mp y))))), if_neg (fun y => z (Or.inr (Or.inr (Or.inr (Or.inl ((e 8 (by decide)).mp y)))))), if_neg (fun y => z (Or.inr (Or.inr (Or.inr (Or.inr ((e 16 (by decide)).mp y))))))]
theorem rowM_ps {R : Nat → Int32} {P : Int} (hR : rowM R h c g t p M) : rowM (up (up (up (up R 4 (J P)) 15 (J 0)) 17 (J 0)) 18 (J 0)) h c (psG g P) t p M := by
  obtain ⟨r1, r2, r3⟩ := hR
  have hi : ∀ k, 19 ≤ k → up (up (up (up R 4 (J P)) 15 (J 0)) 17 (J 0)) 18 (J 0) k = R k := fun k hk => by
    rw [up_ne (by omega), up_ne (by omega), up_ne (by omega), up_ne (by omega)]
  have z2 : psG g P 2 - psG g P 6 = 0 := Int.sub_self _
  have z3 : psG g P 3 - psG g P 7 = 0 := Int.sub_self _
  refine ⟨fun k hk => ?_, fun i hi' => ?_, fun i hi' w hw => ?_⟩
  · match k, hk with
    | 0, _ => exact r1 0 (by decide)
    | 1, _ => exact r1 1 (by decide)
    | 2, _ => exact r1 2 (by decide)
    | 3, _ => exact r1 3 (by decide)
    | 4, _ => rfl
    | 5, _ => exact r1 5 (by decide)
    | 6, _ => exact r1 6 (by decide)
    | 7, _ => exact r1 7 (by decide)
    | 8, _ => exact r1 8 (by decide)
    | 9, _ => exact r1 9 (by decide)
    | 10, _ => exact r1 10 (by decide)
    | 11, _ => exact r1 11 (by decide)
    | 12, _ => exact r1 12 (by decide)
    | 13, _ => exact r1 13 (by decide)
    | 14, _ => exact r1 14 (by decide)
    | 15, _ => rfl
    | 16, _ => exact r1 16 (by decide)
    | 17, _ =>
      show J 0 = J (psG g P 2 - psG g P 6)
      rw [z2]
    | 18, _ =>
      show J 0 = J (psG g P 3 - psG g P 7)
      rw [z3]
    | 19, _ => exact r1 19 (by decide)
    | 20, _ => exact r1 20 (by decide)
    | 21, _ => exact r1 21 (by decide)
    | 22, _ => exact r1 22 (by decide)
    | k + 23, hk => exact absurd hk (by omega)
  · rw [hi _ (by omega), hi _ (by omega)]
    exact r2 i hi'
  · rw [hi _ (by omega)]
    exact r3 i hi' w hw
/-- the model remembers, then its row is another -/
theorem gm_keepRow {x : Int} {now' : sta} {R : Nat → Int32} (hN : 100000 ≤ N) (hR : dR S v m now sv ps re ca ch) (hs : sV now) (hp : psV ps) (hR' : rwM R now') :
    ∃ v1, F_gm_remembers N m S (th v m x) = some v1 ∧ rw v1 (m + 1) = rw v (m + 1) ∧ dR S (wr v1 (m + 1) R) m now' sv (keepP now ps) re ca ch ∧ mch m v (wr v1 (m + 1) R) ∧ rw (wr v1 (m + 1) R) m 10 = J x := by
  obtain ⟨hl, h1, hsv, h5, h6, h7, h8, h9⟩ := id hR
  have hP : pR (th v m x) m ps := by
    obtain ⟨y1, y2, y3⟩ := dR_pR hR hp
    exact ⟨by rw [rw_th0 (by decide)]; exact y1, y2, fun i s his => by rw [rw_th (by omega)]; exact y3 i s his⟩
  obtain ⟨v1, e1, e2, e3⟩ := gm_remembers (N := N) (v := th v m x) hN hl (by rw [rw_th (by omega)]; exact h1) hs hP
  have hm : ∀ k, k ≠ 5 → k ≠ 10 → rw (wr v1 (m + 1) R) m k = rw v m k := fun k k5 k10 => by rw [rw_wr_ne (by omega), e3.2.2 k k5, rw_th0 k10]
  refine ⟨v1, e1, by rw [e3.2.1 _ (by omega) (by omega), rw_th (by omega)], ?_, ?_, ?_⟩
  · refine dR_mk hR (by rw [rw_wr]; exact hR') ?_ (hm 6 (by decide) (by decide)) ?_ ?_ ?_ ?_
    · rw [rw_wr_ne (by omega), e3.2.1 _ (by omega) (by omega), rw_th (by omega)]
    · obtain ⟨y1, y2, y3⟩ := e2
      exact ⟨by rw [rw_wr_ne (by omega)]; exact y1, y2, fun i s his => by rw [rw_wr_ne (by omega)]; exact y3 i s his⟩
    · rw [hm 7 (by decide) (by decide)]; exact h7
    · rw [hm 8 (by decide) (by decide)]; exact h8
    · rw [hm 9 (by decide) (by decide)]; exact h9
  · exact mch_tr mch_th (mch_tr (mch_kpF e3) (mch_wr (by omega)))
  · rw [rw_wr_ne (by omega), e3.2.2 10 (by decide)]
    exact th10
theorem gm_setPrescale {n : Int} {o : Nat ⊕ (Int × full)} (hN : 100000 ≤ N) (hR : dR S v m now sv ps re ca ch) (hs : sV now) (hp : psV ps) (hn : -2147483648 ≤ n ∧ n < 2147483648) (ho : spO (now, sv, ps, re, ca, ch) n o) :
    UM (F_gm_setPrescale N m (J n) S v) (now, sv, ps, re, ca, ch) o S v m := by
  have hl := hR.1
  have h1 := hR.2.1
  have n1 : ¬ J 1 = J 0 := by decide
  obtain ⟨i1, i2⟩ := gm_mayBeP (S := S) (v := th v m 0) hn
  unfold F_gm_setPrescale
  rw [grd_true _ hl.1]
  simp only [lt_def, si_th]
  unfold K_gm_setPrescale_18
  by_cases z : isP n
  · obtain ⟨v1, e1, e2, e3, e4, e5⟩ := gm_keepRow (x := 0) (now' := psS n now) (R := up (up (up (up (rw v (m + 1)) 4 (J n)) 15 (J 0)) 17 (J 0)) 18 (J 0)) hN hR hs hp (rowM_ps (h := now.1) (c := now.2.1) (g := now.2.2.1) (t := now.2.2.2.1) (p := now.2.2.2.2.1) (M := now.2.2.2.2.2) h1)
    have r4 : rw v (m + 1) 4 = J (now.2.2.1 4) := h1.1 4 (by decide)
    rw [ho.1 z, i1 z]
    simp only [Option.bind_some, n1, if_false]
    rw [grd_true _ hl.1, gm_fails0]
    simp only [Option.bind_some, if_true]
    rw [grd_true _ hl.1, e1]
    simp only [Option.bind_some]
    rw [hl.2.1]
    simp only [Option.bind_some]
    rw [grd_true _ hl.2.2.1]
    simp only [lt_def, si_wr, gi_x, rw_wr, wr_wr, e2, r4]
    exact ⟨_, rfl, e3, e4, e5⟩
  · rw [ho.2 z, i2 z]
    simp only [Option.bind_some, if_true]
    rw [grd_true _ hl.1, gm_fails1 hl]
    simp only [Option.bind_some, n1, if_false]
    rw [th_th]
    exact ⟨_, rfl, dR_th hR hs, mch_th, th10⟩
end SETP
