/-! The best prescale. -/
section PRESCALE
def eq5 (g g' : Nat → Int) : Prop := g 0 = g' 0 ∧ g 1 = g' 1 ∧ g 2 = g' 2 ∧ g 8 = g' 8 ∧ g 9 = g' 9
theorem egN_5 {g g' : Nat → Int} (h : eq5 g g') : ∀ n : Nat, eq5 (egN n g) (egN n g')
  | 0 => h
  | n + 1 => by
    obtain ⟨h0, h1, h2, h8, h9⟩ := egN_5 h n
    refine ⟨h0, ?_, ?_, h8, h9⟩
    · show egN n g 1 + egN n g 0 = egN n g' 1 + egN n g' 0; omega
    · show egN n g 2 + 1 = egN n g' 2 + 1; omega
theorem edE_5 {g g' : Nat → Int} {T : Int} (h : eq5 g g') : eq5 (edE T g) (edE T g') := by
  unfold edE
  have e : edN T g = edN T g' := by unfold edN; rw [h.1, h.2.1]
  rw [e]
  exact egN_5 h _
theorem psZ_5 {t p : Nat → Int} {A B : Int} : ∀ (n : Nat) (g g' : Nat → Int), eq5 g g' → eq5 (psZ t p A B n g) (psZ t p A B n g')
  | 0, g, g', h => edE_5 h
  | n + 1, g, g', h => by
    have e : psZ t p A B (n + 1) g = if g 9 < g 8 ∧ t (g 9).toNat ≤ A then psZ t p A B n (smZ t p (edE (t (g 9).toNat - 1) g)) else edE B g := rfl
    have e' : psZ t p A B (n + 1) g' = if g' 9 < g' 8 ∧ t (g' 9).toNat ≤ A then psZ t p A B n (smZ t p (edE (t (g' 9).toNat - 1) g')) else edE B g' := rfl
    rw [e, e', h.2.2.2.1, h.2.2.2.2]
    split
    · refine psZ_5 n _ _ ?_
      obtain ⟨a0, a1, a2, a8, a9⟩ := edE_5 (T := t (g' 9).toNat - 1) h
      refine ⟨?_, ?_, a2, a8, ?_⟩
      · show p (edE _ g 9).toNat = p (edE _ g' 9).toNat; rw [a9]
      · show (if 0 < p (edE _ g 9).toNat then t (edE _ g 9).toNat + p (edE _ g 9).toNat else -1) = (if 0 < p (edE _ g' 9).toNat then t (edE _ g' 9).toNat + p (edE _ g' 9).toNat else -1); rw [a9]
      · show edE _ g 9 + 1 = edE _ g' 9 + 1; rw [a9]
    · exact edE_5 h
theorem sgK_5 {t p g g' : Nat → Int} {K : Int} (h : eq5 g g') : eq5 (sgK t p K g) (sgK t p K g') := by
  unfold sgK
  rw [h.2.2.2.1, h.2.2.2.2]
  exact psZ_5 _ g g' h
/-- the prescaler set anew -/
def psG (g : Nat → Int) (P : Int) : Nat → Int := fun j => if j = 7 then g 3 else if j = 6 then g 2 else if j = 5 then 0 else if j = 4 then P else g j
theorem psG_5 {g : Nat → Int} {P : Int} : eq5 (psG g P) g := ⟨rfl, rfl, rfl, rfl, rfl⟩
theorem psG_J {t p g : Nat → Int} {u P : Int} (h : sgJ u t p g) (hP : 1 ≤ P ∧ P ≤ 16) : sgJ u t p (psG g P) := by
  obtain ⟨⟨a0, a1, a2, a3, a4, a5⟩, b, c, d⟩ := h
  exact ⟨⟨a0, a1, a2, a3, hP, ⟨Int.le_refl _, by show 0 < P; omega⟩⟩, b, c, d⟩
theorem psG_V {t p g : Nat → Int} {P : Int} (h : sgV t p g) (hP : 1 ≤ P ∧ P ≤ 16) : sgV t p (psG g P) := by
  obtain ⟨⟨u, hJ, q0, q1⟩, -, -⟩ := h
  have := hJ.1.2.2.2.1
  exact ⟨⟨u, psG_J hJ hP, q0, q1⟩, ⟨by show 0 ≤ g 2; omega, Int.le_refl _⟩, ⟨by show 0 ≤ g 3; omega, Int.le_refl _⟩⟩
theorem psG_st {h c g t p : Nat → Int} {M : Nat → Nat → Int} {P : Int} (hs : stV h c g t p M) (hP : 1 ≤ P ∧ P ≤ 16) : stV h c (psG g P) t p M := by
  obtain ⟨a, b, d, ⟨u, hJ, q0, q1⟩, e⟩ := hs
  exact ⟨a, b, psG_V d hP, ⟨u, psG_J hJ hP, q0, q1⟩, e⟩
theorem psG_3 {t p g : Nat → Int} {K P : Int} (h : sgV t p g) (hP : 1 ≤ P ∧ P ≤ 16) (hK : K ≤ 6300002) : sgK t p K (psG g P) 3 - g 3 = (sgK t p K g 2 - g 2) / P := by
  obtain ⟨⟨u, hJ, q0, q1⟩, -, -⟩ := h
  have hJ' := psG_J hJ hP
  have s := sgK_sum (K := K) hJ' q0 q1 hK
  obtain ⟨-, u', j1, -⟩ := sgK_J (K := K) hJ' q0 q1 hK
  have e4 := sgK_keep (K := K) hJ' q0 q1 hK 4 (Or.inl rfl)
  have h5 := j1.1.2.2.2.2.2
  have e2 := (sgK_5 (t := t) (p := p) (K := K) (psG_5 (g := g) (P := P))).2.2.1
  have x4 : psG g P 4 = P := rfl
  have x3 : psG g P 3 = g 3 := rfl
  have x5 : psG g P 5 = 0 := rfl
  have x2 : psG g P 2 = g 2 := rfl
  rw [x4] at e4
  rw [e4] at h5
  rw [x4, x3, x5, x2, e2] at s
  exact ((Int.ediv_emod_unique (a := sgK t p K g 2 - g 2) (b := P) (r := sgK t p K (psG g P) 5) (q := sgK t p K (psG g P) 3 - g 3) (by omega)).mpr ⟨by rw [Int.mul_comm P, Int.sub_mul]; omega, h5.1, h5.2⟩).1.symm
theorem psG_O {t p g c : Nat → Int} {P : Int} {G : Nat} (hc : ckI c) (h : sgV t p g) (hP : 1 ≤ P ∧ P ≤ 16) (hG : (tkN G c) 4 ≤ 2000000) : gO t p G c (psG g P) = (gG t p G c g 2 - g 2) / P - (gG t p 0 c g 2 - g 2) / P := by
  have hm := tkN_mono hc (show 0 ≤ G by omega)
  have e1 := psG_3 (K := 3 * (tkN G c) 4) h hP (by omega)
  have e0 := psG_3 (K := 3 * (tkN 0 c) 4) h hP (by omega)
  unfold gO gG
  omega
variable {S : shp} {v : vl} {a b m N q : Nat} {h c g t p X : Nat → Int} {M : Nat → Nat → Int} {sv : Option sta} {ps : List sta} {re ca ch : Int}
def pv (i : Nat) : Int := match i with
  | 0 => 1
  | 1 => 2
  | 2 => 4
  | 3 => 8
  | _ => 16
theorem pv_B (i : Nat) : 1 ≤ pv i ∧ pv i ≤ 16 := by
  unfold pv
  split <;> decide
/-- the table of prescales -/
def tPs (S : shp) (v : vl) (a : Nat) : Prop := kin S (kad S 0) = some (11, 5) ∧ (kad S 0 < a ∨ a + 84 ≤ kad S 0) ∧ ∀ i, i < 5 → rw v (kad S 0) i = J (pv i)
theorem tPs_exg {S' : shp} {v' : vl} {k l : Nat} (hT : tPs S v a) (hw : wfS S) (he : exg a k l S v S' v') : tPs S' v' a := by
  obtain ⟨t1, t2, t3⟩ := hT
  obtain ⟨-, x2, x3, x4, -⟩ := he
  have hn := kin_lt hw t1
  refine ⟨by rw [x4, x3 _ hn]; exact t1, by rw [x4]; exact t2, fun i hi => ?_⟩
  rw [x4, (x2 _ (by omega) (by omega) hn).1]
  exact t3 i hi
theorem sg_setUp {P : Int} (hW : sgW S v b t p g) : ∃ f, F_sg_setUpPrescaler b (J P) S v = some (wr v b f) ∧ ag 10 f (psG g P) := by
  obtain ⟨l1, hg, -⟩ := hW
  refine ⟨up (up (up (up (rw v b) 4 (J P)) 5 (J 0)) 6 (rw v b 2)) 7 (rw v b 3), ?_, ?_⟩
  · unfold F_sg_setUpPrescaler
    rw [grd_true _ l1.1]
    simp only [lt_def, si_wr, gi_x, rw_wr, wr_wr]
    rfl
  · rw [hg 2 (by decide), hg 3 (by decide)]
    exact ag_up (ag_up (ag_up (ag_up hg)))
theorem st_setUp {P : Int} (hM : stM S v b h c g t p) : ∃ f, F_sg_setUpPrescaler (b + 2) (J P) S v = some (wr v (b + 2) f) ∧ stM S (wr v (b + 2) f) b h c (psG g P) t p := by
  obtain ⟨l, hh, hc, hW⟩ := hM
  obtain ⟨f, e, hf⟩ := sg_setUp (P := P) hW
  exact ⟨f, e, l, by rw [rw_wr_ne (by omega)]; exact hh, by rw [rw_wr_ne (by omega)]; exact hc, sgW_wr hW hf rfl⟩
def bpF (V : Int → Int) : Nat → Nat → Int → Int → Int
  | 0, _, x, _ => x
  | f + 1, i, x, d => if d < V (pv i) then bpF V f (i + 1) (pv i) (V (pv i)) else bpF V f (i + 1) x d
theorem bpF_s {V : Int → Int} {f i : Nat} {x d : Int} : bpF V (f + 1) i x d = if d < V (pv i) then bpF V f (i + 1) (pv i) (V (pv i)) else bpF V f (i + 1) x d := rfl
def bpV (h c g t p : Nat → Int) (P : Int) : Int := gM h c (psG g P) t p 4
def bpZ (h c g t p : Nat → Int) : Int := if gW h c = 0 then bpF (bpV h c g t p) 5 0 (-1) (-1) else -1
theorem gc_bestLoop (hN : 7000000 ≤ N) : ∀ (f F i : Nat) (S : shp) (v : vl) (x d : Int), i + f = 5 → f < F → wfS S → cR S v a (h, c, g, t, p, M) sv ps re ca ch q → tPs S v a → -1 ≤ d ∧ d ≤ 2000000000 →
    ∃ S' v', K_gc_bestPrescale_15 N F S v a (J x) (J d) (kad S 0) (J 5) (J (i : Int)) = some (J (if gW h c = 0 then bpF (bpV h c g t p) f i x d else x), S', v') ∧ wfS S' ∧ cR S' v' a (h, c, g, t, p, M) sv ps re ca ch q ∧ exg a f (7 * f) S v S' v'
  | _, 0, i, S, v, x, d, _, h, _, _, _, _ => absurd h (Nat.not_lt_zero _)
  | 0, F + 1, i, S, v, x, d, hi, hF, hw, hR, hT, hd => by
    show ∃ S' v', Y_gc_bestPrescale_15 N (K_gc_bestPrescale_15 N F) S v a (J x) (J d) (kad S 0) (J 5) (J (i : Int)) = _ ∧ _
    unfold Y_gc_bestPrescale_15
    rw [if_neg (fun z => by have := (J_lt (by omega) (by decide)).mp z; omega)]
    exact ⟨S, v, by split <;> rfl, hw, hR, exg_refl⟩
  | f + 1, F + 1, i, S, v, x, d, hi, hF, hw, hR, hT, hd => by
    obtain ⟨T1, T2, T3⟩ := id hT
    have n10 : ¬ J 1 = J 0 := by decide
    have ti : (J (i : Int)).toInt = i := J_toInt (by omega) (by omega)
    have hs := cR_V hR
    have hP := pv_B i
    have hI := psG_st (P := pv i) hs hP
    obtain ⟨k0, -⟩ := cR_now hR
    obtain ⟨S1, v1, s1, s2, R1, w1, x1⟩ := fresh_R (N := N) (by omega) hw hR (Or.inl rfl)
    obtain ⟨b0, b6, b1, b7, bl, b8, b5⟩ := id s2.1.1
    obtain ⟨f2, e2, M2⟩ := st_setUp (P := pv i) s2.1
    have F2 : fri (a + 17) 6 v1 (wr v1 (a + 17 + 2) f2) := fri_wr (by omega)
    have N2 : msR S1 (wr v1 (a + 17 + 2) f2) (a + 17 + 5) (h 5) M := msR_fri s2.2 s2.1.1 F2
    obtain ⟨y1, y2⟩ := st_gate (G := (h 1).toNat) hN w1 M2 N2 hI.2.1 hI.2.2.1 hI.1 (by show h 1 = _; have := hI.1.2.1; omega)
    have x2 := exi_tr x1 (exi_fri F2)
    show ∃ S' v', Y_gc_bestPrescale_15 N (K_gc_bestPrescale_15 N F) S v a (J x) (J d) (kad S 0) (J 5) (J (i : Int)) = _ ∧ _
    unfold Y_gc_bestPrescale_15
    rw [if_pos ((J_lt (by omega) (by decide)).mpr (by omega)), grd_true _ T1, grd_true _ (vin_of T1 ti (by omega)), clampT ti, gi_rw, T3 i (by omega)]
    simp only [lt_def, k0, grd_pos, (gr67 hR.1).1, Option.bind_some, s1, oc2, b0, b7, bl.1]
    rw [e2]
    simp only [Option.bind_some, (gr67 R1.1).1, b0, grd_pos]
    rw [J_s]
    have go : ∀ {S3 : shp} {v3 : vl} {k l : Nat} {x d : Int}, stL S3 (a + 17) → exi (a + 17) 6 k l S v S3 v3 → k ≤ 1 → l ≤ 7 → -1 ≤ d ∧ d ≤ 2000000000 → ∃ S' v', K_gc_bestPrescale_15 N F S3 v3 a (J x) (J d) (kad S 0) (J 5) (J ((i + 1 : Nat) : Int)) = some (J (if gW h c = 0 then bpF (bpV h c g t p) f (i + 1) x d else x), S', v') ∧ wfS S' ∧ cR S' v' a (h, c, g, t, p, M) sv ps re ca ch q ∧ exg a (f + 1) (7 * (f + 1)) S v S' v' := by
      intro S3 v3 k l x d hl he hk hll hd
      obtain ⟨P1, P2, P3⟩ := scr_P hR hw (Or.inl rfl) hl he (Nat.le_trans hk (by decide)) (Nat.le_trans hll (by decide))
      have G : exg a 1 7 S v S3 v3 := exg_exi he (by omega) hk hll
      have ek : kad S3 = kad S := G.2.2.2.1
      obtain ⟨S', v', r1, r2, r3, r4⟩ := gc_bestLoop hN f F (i + 1) S3 v3 x d (by omega) (by omega) P1 P2 (tPs_exg hT hw G) hd
      rw [ek] at r1
      exact ⟨S', v', r1, r2, r3, exg_mono (exg_tr G r4) (by omega) (by omega)⟩
    by_cases y : (tkN (h 1).toNat c) 4 ≤ 2000000
    · have yW := gW_0.mpr y
      obtain ⟨S3, v3, t1, t2, t3, t4⟩ := y1 y
      have gV := gM_V hI.1 hI.2.1 hI.2.2.1 hI.2.2.2.1 hI.2.2.2.2.1 yW
      have L : F_st_latestNumber N (a + 17) (J 4) S3 v3 = some (J (bpV h c g t p (pv i))) := st_latest_kp (w := 4) (h' := h) (show 100 ≤ N by omega) t2.1 (t2.2.1 5 (by decide)) hI.1.2.2.2.2 t3 hI.2.2.2.2.2 gV (by decide)
      have hB : 0 ≤ bpV h c g t p (pv i) ∧ bpV h c g t p (pv i) ≤ 2000000000 := gV.2.2.2.2.1
      have x3 := exi_tr x2 t4
      obtain ⟨-, P2, -⟩ := scr_P hR hw (Or.inl rfl) t2.1 x3 (by decide) (by decide)
      rw [t1]
      simp only [Option.bind_some, if_true, (gr67 P2.1).1, t2.1.1, grd_pos, L, if_pos yW]
      rw [bpF_s]
      by_cases w : d < bpV h c g t p (pv i)
      · rw [if_pos ((J_lt (by omega) (by omega)).mpr w), if_pos w]
        have := go (x := pv i) (d := bpV h c g t p (pv i)) t2.1 x3 (by decide) (by decide) (by omega)
        rw [if_pos yW] at this
        exact this
      · rw [if_neg (fun z => w ((J_lt (by omega) (by omega)).mp z)), if_neg w]
        have := go (x := x) (d := d) t2.1 x3 (by decide) (by decide) hd
        rw [if_pos yW] at this
        exact this
    · obtain ⟨v3, t1, t2⟩ := y2 (show 2000000 < (tkN (h 1).toNat c) 4 by omega)
      have nW : ¬ gW h c = 0 := fun z => y (gW_0.mp z)
      rw [t1]
      simp only [Option.bind_some, n10, if_false, if_neg nW]
      have := go (x := x) (d := d) s2.1.1 (exi_tr x2 (exi_fri t2)) (by decide) (by decide) hd
      rw [if_neg nW] at this
      exact this
theorem gc_bestPrescale (hN : 7000000 ≤ N) (hw : wfS S) (hR : cR S v a (h, c, g, t, p, M) sv ps re ca ch q) (hT : tPs S v a) :
    QD (F_gc_bestPrescale N a S v) (bpZ h c g t p) (PC a (h, c, g, t, p, M) sv ps re ca ch q S v) := by
  obtain ⟨S', v', r1, r2, r3, r4⟩ := gc_bestLoop hN 5 N 0 S v (-1) (-1) (by decide) (by omega) hw hR hT (by decide)
  have e5 : nI (alen S (kad S 0)) = J 5 := by rw [alen_of hT.1]; rfl
  unfold F_gc_bestPrescale
  rw [grd_true _ hT.1, e5]
  exact ⟨S', v', r1, r2, r3, exg_mono r4 (by decide) (by decide)⟩
theorem J_ediv {x y : Int} (hx : 0 ≤ x ∧ x ≤ 2000000000) (hy : 1 ≤ y ∧ y ≤ 2000000000) : J x / J y = J (x / y) := by
  have tx : (J x).toInt = x := J_toInt (by omega) (by omega)
  have ty : (J y).toInt = y := J_toInt (by omega) (by omega)
  have h0 : 0 ≤ x / y := Int.ediv_nonneg hx.1 (by omega)
  have h1 : x / y ≤ x := Int.ediv_le_self _ hx.1
  refine i_eq.mpr ?_
  rw [i_div (by rw [ty]; omega), tx, ty, J_toInt (by omega) (by omega), Int.tdiv_eq_ediv_of_nonneg hx.1]
def pN (i : Nat) : Int := if i < 5 then pv i else 32
theorem pv_2 {i : Nat} (h : i < 5) : J (pv i) * J 2 = J (pN (i + 1)) := by
  match i, h with
  | 0, _ => rfl
  | 1, _ => rfl
  | 2, _ => rfl
  | 3, _ => rfl
  | 4, _ => rfl
  | n + 5, h => exact absurd h (by omega)
theorem gm_bestLoop {w : vl} {A B : Int} (hN : 7000000 ≤ N) (hl : mdL S m) (hs : stV h c g t p M) (hW : gW h c = 0) (hA : A = gG t p 0 c g 2 - g 2) (hB : B = gG t p (h 1).toNat c g 2 - g 2) (hA1 : 0 ≤ A ∧ A ≤ 2100000) (hB1 : 0 ≤ B ∧ B ≤ 2100000) (r1 : rw w (m + 1) 1 = J (c 0)) (r5 : rw w (m + 1) 5 = J (h 1)) (r7 : rw w (m + 1) 7 = J (h 3)) : ∀ (f F i : Nat) (x d : Int), i + f = 5 → f < F → -1 ≤ d ∧ d ≤ 2000000000 →
    BK m w (bpF (bpV h c g t p) f i x d) (K_gm_bestPrescale_56 N F S w m (J A) (J B) (J x) (J d) (J (pN i)))
  | _, 0, i, x, d, _, h, _ => absurd h (Nat.not_lt_zero _)
  | 0, F + 1, i, x, d, hi, hF, hd => by
    show BK m w _ (Y_gm_bestPrescale_56 N (K_gm_bestPrescale_56 N F S) S w m (J A) (J B) (J x) (J d) (J (pN i)))
    unfold Y_gm_bestPrescale_56
    rw [show i = 5 by omega, if_pos (by decide), grd_true _ hl.1]
    exact BK_bind (BK_back hN hl)
  | f + 1, F + 1, i, x, d, hi, hF, hd => by
    have hP := pv_B i
    have hI := psG_st (P := pv i) hs hP
    have hv1 := hs.1.2.1
    have gV := gM_V hI.1 hI.2.1 hI.2.2.1 hI.2.2.2.1 hI.2.2.2.2.1 hW
    have hBd : 0 ≤ bpV h c g t p (pv i) ∧ bpV h c g t p (pv i) ≤ 2000000000 := gV.2.2.2.2.1
    obtain ⟨-, -, -, o1, o2⟩ := gG_V (G := (h 1).toNat) hI.2.1.1 hI.2.2.1 (gW_0.mp hW)
    have eO := psG_O (P := pv i) hs.2.1.1 hs.2.2.1 hP (gW_0.mp hW)
    rw [← hA, ← hB] at eO
    have V := gm_valueOf (X := c) (T := 0) (g := c) (S := S) (v := w) (o := gO t p (h 1).toNat c (psG g (pv i))) (n := h 1) (k := h 3) (P := pv i) hl r1 (val_op ⟨o1, o2⟩ hP) hs.2.1.1.1 hP ⟨o1, o2⟩ (by omega) hs.1.2.2.2.1
    have eN : pN i = pv i := if_pos (by omega)
    show BK m w _ (Y_gm_bestPrescale_56 N (K_gm_bestPrescale_56 N F S) S w m (J A) (J B) (J x) (J d) (J (pN i)))
    unfold Y_gm_bestPrescale_56
    rw [eN, if_neg (show ¬ J 16 < J (pv i) from fun z => by have := (J_lt (by decide) (by omega)).mp z; omega)]
    unfold F_gm_outputsBy
    rw [grd_true _ (show ¬ J (pv i) = 0 from fun z => by have := (J_eq (x := pv i) (y := 0) (by omega) (by decide)).mp z; omega), J_ediv (by omega) (by omega), J_ediv (by omega) (by omega), ← J_sub, ← eO]
    simp only [Option.bind_some]
    rw [grd_true _ hl.1, hl.2.1]
    simp only [Option.bind_some]
    rw [grd_true _ hl.2.2.1, gi_rw, gi_rw, r5, r7, V]
    simp only [Option.bind_some]
    have ev : valZ (gO t p (h 1).toNat c (psG g (pv i))) (h 1) (c 0) (h 3) (pv i) = bpV h c g t p (pv i) := rfl
    rw [ev, pv_2 (by omega), bpF_s]
    by_cases u : d < bpV h c g t p (pv i)
    · rw [if_pos ((J_lt (by omega) (by omega)).mpr u), if_pos u]
      exact gm_bestLoop hN hl hs hW hA hB hA1 hB1 r1 r5 r7 f F (i + 1) _ _ (by omega) (by omega) (by omega)
    · rw [if_neg (show ¬ J d < J (bpV h c g t p (pv i)) from fun z => u ((J_lt (by omega) (by omega)).mp z)), if_neg u]
      exact gm_bestLoop hN hl hs hW hA hB hA1 hB1 r1 r5 r7 f F (i + 1) _ _ (by omega) (by omega) hd
theorem gm_bestPrescale (hN : 7000000 ≤ N) (hR : dR S v m (h, c, g, t, p, M) sv ps re ca ch) (hs : stV h c g t p M) :
    QM (F_gm_bestPrescale N m S v) (.inr (bpZ h c g t p)) (fun v' => mqt m v v' 0) := by
  obtain ⟨hl, h1, -⟩ := hR
  have n10 : ¬ J 1 = J 0 := by decide
  unfold F_gm_bestPrescale
  rw [grd_true _ hl.1]
  simp only [lt_def, si_th]
  rw [gm_thinks (by omega) hl]
  simp only [Option.bind_some, hl.2.1, hl.2.2.1, grd_pos]
  have h1' : rowM (rw (th v m 0) (m + 1)) h c g t p M := th_rowM h1
  obtain ⟨w3, e3⟩ : ∃ w3, w3 = wr (th v m 0) (m + 3) (cpR (rw (th v m 0) (m + 1)) (rw (th v m 0) (m + 3)) 0 0 199) := ⟨_, rfl⟩
  have R3 : rowM (rw w3 (m + 1)) h c g t p M := by rw [e3, rw_wr_ne (by omega)]; exact h1'
  have r14 : rw w3 (m + 1) 14 = J (g 2) := R3.1 14 (by decide)
  obtain ⟨f', R', s1, s2, s3⟩ := gm_measG hN hl R3 hs
  have main : BK m w3 (bpZ h c g t p) ((F_gm_measuresGate N m S w3).bind fun (x7, w8) => (if x7 = (J 0) then K_gm_bestPrescale_56 N N S w8 m (gi w8 m 14 - gi w3 (m + 1) 14) (gi w8 m 15 - gi w3 (m + 1) 14) (J (-1)) (J (-1)) (J 1) else (F_gm_back N m (J (-1)) S w8).bind fun (x20, w21) => some ((x20, w21)))) := by
    rw [s1]
    simp only [Option.bind_some]
    have eW : (J (gW h c) = J 0) ↔ gW h c = 0 := J_eq (by unfold gW; split <;> omega) (by decide)
    unfold bpZ
    refine BK_wr (R := R') s2 ?_
    by_cases q : gW h c = 0
    · obtain ⟨k11, k12, k13, k14, k15, kR⟩ := s3 q
      have y := gW_0.mp q
      have hm := tkN_mono hs.2.1.1 (show 0 ≤ (h 1).toNat by omega)
      have c0 : (tkN 0 c) 4 = c 4 := rfl
      obtain ⟨⟨u, hJ, q0, q1⟩, -⟩ := id hs.2.2.1
      have mono : ∀ K : Int, K ≤ 6300002 → 0 ≤ sgK t p K g 2 - g 2 ∧ sgK t p K g 2 - g 2 ≤ 2100000 := fun K hK => by
        obtain ⟨-, u', j1, j2, j3, -⟩ := sgK_J (K := K) hJ q0 q1 hK
        have := sgK_M (K := K) hJ q0 q1 hK (fun h => g 2 ≤ h 2) (Int.le_refl _) (fun u h _ _ _ hM _ => by
          have := (ev1_67 t p h).2.2.1
          omega)
        have b1 := hJ.1.2.2.2.1
        obtain ⟨⟨u2, j2', -, k2⟩, -⟩ := (sgV_K (K := K) hs.2.2.1 hK).1
        have b2 := j2'.1.2.2.2.1
        omega
      have a14 : rw (wr (wr w3 m f') (m + 1) R') m 14 = J (gG t p 0 c g 2) := by rw [rw_wr_ne (by omega), rw_wr]; exact k14
      have a15 : rw (wr (wr w3 m f') (m + 1) R') m 15 = J (gG t p (h 1).toNat c g 2) := by rw [rw_wr_ne (by omega), rw_wr]; exact k15
      rw [if_pos (eW.mpr q), if_pos q]
      simp only [gi_x, a14, a15, r14]
      rw [← J_sub, ← J_sub]
      exact gm_bestLoop hN hl hs q rfl rfl (mono _ (by omega)) (mono _ (by omega))
        (by rw [rw_wr, kR.1 1 (by decide)]; show J ((tkN ((h 1).toNat + 1) c) 0) = _; rw [(tkN_inv hs.2.1.1 ((h 1).toNat + 1)).2.2.2.2.1])
        (by rw [rw_wr, kR.1 5 (by decide)]; rfl) (by rw [rw_wr, kR.1 7 (by decide)]; rfl) 5 N 0 (-1) (-1) (by decide) (by omega) (by decide)
    · rw [if_neg (fun z => q (eW.mp z)), if_neg q]
      exact BK_bind (BK_back hN hl)
  rw [e3] at main
  obtain ⟨v', e1, e2⟩ := BK_mq main
  exact ⟨v', e1, mqt_mq e2⟩
end PRESCALE
