/-! The law's beginning: its object, and its text. -/
section LAWINIT
variable {S S' S0 : shp} {v v' v0 : vl} {a o N j k p0 n r len r' len' : Nat} {f0 f1 f2 : Nat → Int32} {L M L' : List Int} {A P : Int} {t p : Nat → Int}
/-- the law's object o under way: its three rows, its text so far -/
def IQ (S0 : shp) (v0 : vl) (o : Nat) (f0 f1 f2 : Nat → Int32) (L : List Int) (S : shp) (v : vl) : Prop := ∃ r len, wfS S ∧ (OL S v (o + 3) L r len ∧ o + 4 ≤ r ∧ 16 ≤ len) ∧ (∀ x, x < o → kin S x = kin S0 x ∧ rw v x = rw v0 x ∧ v.2 x = v0.2 x ∧ ∀ j, gr S x j = gr S0 x j) ∧ (kad S = kad S0 ∧ bas S = bas S0) ∧ (cn S0 + 5 ≤ cn S ∧ 18 * (cn S - (cn S0 + 5)) ≤ len - 16) ∧ (cz S0 + 53 ≤ cz S ∧ cz S - (cz S0 + 53) ≤ 2 * (len - 16)) ∧ (lwL S o ∧ gr S o 24 = some (o + 3)) ∧ rw v o = f0 ∧ rw v (o + 1) = f1 ∧ rw v (o + 2) = f2 ∧ ∀ j, v.2 o j = 0
theorem iq_step (hw : wfS S) (hO : OL S v (o + 3) L r len) (hr : o + 4 ≤ r) (hl : 16 ≤ len) (h2 : (∀ x, x < o → kin S x = kin S0 x ∧ rw v x = rw v0 x ∧ v.2 x = v0.2 x ∧ ∀ j, gr S x j = gr S0 x j) ∧ (kad S = kad S0 ∧ bas S = bas S0) ∧ (cn S0 + 5 ≤ cn S ∧ 18 * (cn S - (cn S0 + 5)) ≤ len - 16) ∧ (cz S0 + 53 ≤ cz S ∧ cz S - (cz S0 + 53) ≤ 2 * (len - 16)) ∧ (lwL S o ∧ gr S o 24 = some (o + 3)) ∧ rw v o = f0 ∧ rw v (o + 1) = f1 ∧ rw v (o + 2) = f2 ∧ ∀ j, v.2 o j = 0)
    (e2 : OL S' v' (o + 3) L' r' len') (e3 : exP (o + 3) r len S v S' v' r' len') : IQ S0 v0 o f0 f1 f2 L' S' v' := by
  obtain ⟨q1, ⟨q2, q3⟩, q4, q5, ⟨⟨l1, l2, l3, l4, l5⟩, q6⟩, q7, q8, q9, q10⟩ := h2
  obtain ⟨x1, x2, x3, x4, x5, x6, x7, x8, x9, x10, x11⟩ := e3
  have n0 := kin_lt hw l1
  have n1 := kin_lt hw l3
  have n2 := kin_lt hw l5
  have hr' : o + 4 ≤ r' := by rcases x10 with z | z <;> (have := kin_lt hw hO.1; omega)
  refine ⟨r', len', x11 hw, ⟨e2, hr', by omega⟩, fun x hx => ?_, ⟨x5.trans q2, x6.trans q3⟩, by omega, by omega, ⟨⟨?_, ?_, ?_, ?_, ?_⟩, ?_⟩, ?_, ?_, ?_, fun j => ?_⟩
  · obtain ⟨y1, y2, y3, y4⟩ := q1 x hx
    exact ⟨(x4 x (by omega)).trans y1, (x2 x (by omega) (by omega) (by omega)).trans y2, (x1 x (by omega)).trans y3, fun j => (x3 x (by omega) j (Or.inl (by omega))).trans (y4 j)⟩
  · rw [x4 _ n0]; exact l1
  · rw [x3 _ n0 _ (Or.inl (by omega))]; exact l2
  · rw [x4 _ n1]; exact l3
  · rw [x3 _ n0 _ (Or.inl (by omega))]; exact l4
  · rw [x4 _ n2]; exact l5
  · rw [x3 _ n0 _ (Or.inl (by omega))]; exact q6
  · rw [x2 _ n0 (by omega) (by omega)]; exact q7
  · rw [x2 _ n1 (by omega) (by omega)]; exact q8
  · rw [x2 _ n2 (by omega) (by omega)]; exact q9
  · rw [x1 _ n0]; exact q10 j
theorem iq_wd (Q : IQ S0 v0 o f0 f1 f2 L S v) (h : wdB S0 v0 o j M) : wdB S v o j M := by
  obtain ⟨r, len, -, -, q1, ⟨q2, -⟩, -⟩ := Q
  obtain ⟨h1, h2, h3, h4, w, g1, g2, g3, g4⟩ := h
  unfold wdB
  rw [q2, (q1 _ h2).1, (q1 _ h2).2.1]
  refine ⟨h1, h2, h3, h4, w, by rw [(q1 _ h2).2.2.2]; exact g1, g2, by rw [(q1 _ g2).1]; exact g3, fun k hk => ?_⟩
  rw [(q1 _ g2).2.1]
  exact g4 k hk
theorem iq_dt (Q : IQ S0 v0 o f0 f1 f2 L S v) (h : dtT S0 v0 o) : dtT S v o := by
  obtain ⟨r, len, -, -, q1, ⟨q2, -⟩, -⟩ := Q
  obtain ⟨h1, h2, ⟨h3, h4⟩, h5⟩ := h
  unfold dtT
  rw [q2, (q1 _ h3).1, (q1 _ h4).1, (q1 _ h3).2.1, (q1 _ h4).2.1]
  exact ⟨h1, h2, ⟨h3, h4⟩, h5⟩
theorem iq_kb (Q : IQ S0 v0 o f0 f1 f2 L S v) : kin S (o + 3) = some (0, 7) := by
  obtain ⟨r, len, -, ⟨hO, -⟩, -⟩ := Q
  exact hO.1
theorem iq_l (Q : IQ S0 v0 o f0 f1 f2 L S v) : lwL S o ∧ gr S o 24 = some (o + 3) := by
  obtain ⟨r, len, -, -, -, -, -, -, q, -⟩ := Q
  exact q
theorem iq_r (Q : IQ S0 v0 o f0 f1 f2 L S v) : rw v o = f0 ∧ rw v (o + 1) = f1 ∧ rw v (o + 2) = f2 := by
  obtain ⟨r, len, -, -, -, -, -, -, -, q1, q2, q3, -⟩ := Q
  exact ⟨q1, q2, q3⟩
theorem iq_p (Q : IQ S0 v0 o f0 f1 f2 L S v) (hp : p0 < o) : kin S p0 = kin S0 p0 := by
  obtain ⟨r, len, -, -, q1, -⟩ := Q
  exact (q1 _ hp).1
theorem iq_str (Q : IQ S0 v0 o f0 f1 f2 L S v) (hW : wdB S0 v0 o j M) (hl : L.length + M.length ≤ 142) (hM : M.length ≤ 16) : ∃ S' v', F_sb_append (o + 3) (kad S j) S v = some (some (o + 3), S', v') ∧ IQ S0 v0 o f0 f1 f2 (L ++ M) S' v' := by
  have hW' := iq_wd Q hW
  obtain ⟨r, len, hw, ⟨hO, hr, h16⟩, h2⟩ := Q
  obtain ⟨S', v', r', len', e1, e2, e3⟩ := ol_str hw hW' hO hl hM (by omega) (by omega)
  exact ⟨S', v', e1, iq_step hw hO hr h16 h2 e2 e3⟩
theorem iq_num {x : Int} (hN : 100 ≤ N) (Q : IQ S0 v0 o f0 f1 f2 L S v) (hT : dtT S0 v0 o) (hx : -2147483648 < x ∧ x < 2147483648) (hl : L.length + 11 ≤ 142) : ∃ S' v', F_sb_append2 N (o + 3) (J x) S v = some (some (o + 3), S', v') ∧ IQ S0 v0 o f0 f1 f2 (L ++ numL x) S' v' := by
  have hT' := iq_dt Q hT
  obtain ⟨r, len, hw, ⟨hO, hr, h16⟩, h2⟩ := Q
  obtain ⟨S', v', r', len', e1, e2, e3⟩ := ol_num hN hw hT' hO hx hl (by omega) (by omega)
  exact ⟨S', v', e1, iq_step hw hO hr h16 h2 e2 e3⟩
theorem iq_chr {c : Nat} (Q : IQ S0 v0 o f0 f1 f2 L S v) (hc : c < 128) (hl : L.length + 1 ≤ 142) : ∃ S' v', F_sb_append3 (o + 3) (J (c : Int)) S v = some (some (o + 3), S', v') ∧ IQ S0 v0 o f0 f1 f2 (L ++ [(c : Int)]) S' v' := by
  obtain ⟨r, len, hw, ⟨hO, hr, h16⟩, h2⟩ := Q
  obtain ⟨S', v', r', len', e1, e2, e3⟩ := ol_char hw hO hc hl
  exact ⟨S', v', e1, iq_step hw hO hr h16 h2 e2 e3⟩
theorem OL_wr {x : Nat} {f : Nat → Int32} (h : OL S v a L r len) (h1 : x ≠ a) (h2 : x ≠ r) : OL S (wr v x f) a L r len := by
  obtain ⟨k0, ⟨c1, c3⟩, g0, kr, hb, hbt, ht⟩ := h
  unfold OL OC
  rw [rw_wr_ne (Ne.symm h1), rw_wr_ne (Ne.symm h2)]
  exact ⟨k0, ⟨c1, c3⟩, g0, kr, hb, hbt, ht⟩
theorem iq_set {x : Nat} {y : Int32} (Q : IQ S0 v0 o f0 f1 f2 L S v) : IQ S0 v0 o (up f0 x y) f1 f2 L S (si v o x y) ∧ IQ S0 v0 o f0 (up f1 x y) f2 L S (si v (o + 1) x y) ∧ IQ S0 v0 o f0 f1 (up f2 x y) L S (si v (o + 2) x y) := by
  obtain ⟨r, len, hw, ⟨hO, hr, h16⟩, q1, q2, q4, q5, q6, q7, q8, q9, q10⟩ := Q
  have fr : ∀ z, o ≤ z → ∀ x', x' < o → kin S x' = kin S0 x' ∧ rw (si v z x y) x' = rw v0 x' ∧ (si v z x y).2 x' = v0.2 x' ∧ ∀ j, gr S x' j = gr S0 x' j := fun z hz x' hx' => by
    obtain ⟨y1, y2, y3, y4⟩ := q1 x' hx'
    exact ⟨y1, by rw [si_wr, rw_wr_ne (by omega)]; exact y2, y3, y4⟩
  refine ⟨⟨r, len, hw, ⟨?_, hr, h16⟩, fr o (by omega), q2, q4, q5, q6, ?_, ?_, ?_, q10⟩, ⟨r, len, hw, ⟨?_, hr, h16⟩, fr (o + 1) (by omega), q2, q4, q5, q6, ?_, ?_, ?_, q10⟩, ⟨r, len, hw, ⟨?_, hr, h16⟩, fr (o + 2) (by omega), q2, q4, q5, q6, ?_, ?_, ?_, q10⟩⟩
  · rw [si_wr]; exact OL_wr hO (by omega) (by omega)
  · rw [si_wr, rw_wr, q7]
  · rw [si_wr, rw_wr_ne (by omega)]; exact q8
  · rw [si_wr, rw_wr_ne (by omega)]; exact q9
  · rw [si_wr]; exact OL_wr hO (by omega) (by omega)
  · rw [si_wr, rw_wr_ne (by omega)]; exact q7
  · rw [si_wr, rw_wr, q8]
  · rw [si_wr, rw_wr_ne (by omega)]; exact q9
  · rw [si_wr]; exact OL_wr hO (by omega) (by omega)
  · rw [si_wr, rw_wr_ne (by omega)]; exact q7
  · rw [si_wr, rw_wr_ne (by omega)]; exact q8
  · rw [si_wr, rw_wr, q9]
theorem lw_cell_ok {i : Nat} (hp : kin S p0 = some (11, n)) (hn : n ≤ 65536) (hi : i ≤ 1000) : ∃ x : vl → Int32, ∀ v, F_lw_cell p0 (J (i : Int)) S v = some (x v) := by
  have ti : (J (i : Int)).toInt = ((i : Nat) : Int) := J_toInt (by omega) (by omega)
  have em : nI (alen S p0) = J (n : Int) := by rw [alen_of hp]; rfl
  unfold F_lw_cell
  by_cases z : J (i : Int) < nI (alen S p0)
  · refine ⟨fun v => gi v p0 (Int32.toNatClampNeg (J (i : Int))), fun v => ?_⟩
    have h : i < n := by rw [em] at z; have := (J_lt (by omega) (by omega)).mp z; omega
    rw [grd_true _ ⟨11, n, hp, by decide⟩, if_pos z, grd_true _ (Or.inr (by rw [alen_of hp]; exact hp)), grd_true _ (vin_of hp ti h)]
  · refine ⟨fun v => (((J 113) * (J (i : Int))) + (J 67)), fun v => ?_⟩
    rw [grd_true _ ⟨11, n, hp, by decide⟩, if_neg z]
/-- the rest by m -/
theorem J_rem {y m : Int} (hy : 0 ≤ y ∧ y < 2147483648) (hm : 1 ≤ m ∧ m ≤ 1000) : J y - J y / (J m) * (J m) = J (y % m) := by
  have e1 : (J y).toInt = y := J_toInt (by omega) (by omega)
  have e2 : (J m).toInt = m := J_toInt (by omega) (by omega)
  have q := Int.mul_ediv_add_emod y m
  have hq0 := Int.ediv_nonneg hy.1 (show 0 ≤ m by omega)
  have hq1 : y / m ≤ y := Int.ediv_le_self m hy.1
  have d : J y / J m = J (y / m) := by
    refine i_eq.mpr ?_
    rw [i_div (by rw [e2]; omega), e1, e2, Int.tdiv_eq_ediv_of_nonneg hy.1, J_toInt (by omega) (by omega)]
  rw [d, ← J_mul, ← J_sub]
  congr 1
  rw [Int.mul_comm] at q
  omega
/-- the law's words -/
def sC : List Int := [99, 108, 111, 99, 107, 32]
def sD : List Int := [32, 100, 114, 105, 102, 116, 32]
def sA : List Int := [32, 97, 103, 101, 32]
def sP : List Int := [59, 112, 114, 101, 115, 99, 97, 108, 101, 32]
def sG : List Int := [59, 103, 97, 116, 101, 32]
def sQ : List Int := [59, 112, 101, 114, 105, 111, 100, 115, 32]
def sS : List Int := [115, 105, 103, 110, 97, 108, 32]
def wdA (S : shp) (v : vl) (o : Nat) : Prop := wdB S v o 17 sC ∧ wdB S v o 18 sD ∧ wdB S v o 19 sA ∧ wdB S v o 20 sP ∧ wdB S v o 21 sG ∧ wdB S v o 22 sQ ∧ wdB S v o 23 sS
/-- one segment's statement, and the segments' -/
def sg1 (A P : Int) : List Int := sS ++ (numL A ++ ([32] ++ (numL P ++ [59])))
def sgU (t p : Nat → Int) : Nat → List Int
  | 0 => []
  | k + 1 => sgU t p k ++ sg1 (t k) (p k)
theorem sgU_cg {t' p' : Nat → Int} : ∀ k : Nat, (∀ i, i < k → t i = t' i ∧ p i = p' i) → sgU t p k = sgU t' p' k
  | 0, _ => rfl
  | k + 1, h => by
    unfold sgU
    rw [sgU_cg k (fun i hi => h i (by omega)), (h k (by omega)).1, (h k (by omega)).2]
theorem num_le {x : Int} {d : Nat} (h : x.natAbs < pt d) (hd : 1 ≤ d ∧ d ≤ 9) : (numL x).length ≤ d + 1 ∧ (0 ≤ x → (numL x).length ≤ d) := by
  rw [numL_len]
  unfold sgL'
  have := nd_le h hd
  split <;> omega
theorem sg1_len (hA : 0 ≤ A ∧ A < 1000) (hP : 0 ≤ P ∧ P < 100) : (sg1 A P).length ≤ 15 := by
  have h1 := (num_le (x := A) (d := 3) (show A.natAbs < 1000 by omega) (by decide)).2 hA.1
  have h2 := (num_le (x := P) (d := 2) (show P.natAbs < 100 by omega) (by decide)).2 hP.1
  unfold sg1 sS
  simp only [List.length_append, List.length_cons, List.length_nil]
  omega
theorem in_298 {i230 : shp → vl → Nat → Nat → Int32 → Int32 → Option (shp × vl)} {x : Int32} (hN : 100 ≤ N) (Q : IQ S0 v0 o f0 f1 f2 L S v) (hW : wdB S0 v0 o 23 sS) (hT : dtT S0 v0 o) (hk : k < 4) (hA : 0 ≤ A ∧ A < 1000) (hP : 0 ≤ P ∧ P < 100) (hl : L.length ≤ 101) :
    ∃ S' v' y, K_lw_init_298 N i230 S v o p0 (J A) (J (k : Int)) x (o + 2) (J (k : Int)) (J P) = i230 S' v' o p0 (J (A + 1 + y)) (J ((k + 1 : Nat) : Int)) ∧ IQ S0 v0 o f0 f1 (up f2 k (J P)) (L ++ sg1 A P) S' v' ∧ 0 ≤ y ∧ y ≤ 255 := by
  have tk : (J (k : Int)).toInt = ((k : Nat) : Int) := J_toInt (by omega) (by omega)
  have h1 := (num_le (x := A) (d := 3) (show A.natAbs < 1000 by omega) (by decide)).2 hA.1
  have h2 := (num_le (x := P) (d := 2) (show P.natAbs < 100 by omega) (by decide)).2 hP.1
  obtain ⟨⟨l1, l2, l3, l4, l5⟩, l6⟩ := iq_l Q
  obtain ⟨w, ew⟩ : ∃ w, w = si v (o + 2) k (J P) := ⟨_, rfl⟩
  have Q0 := (iq_set (x := k) (y := J P) Q).2.2
  rw [← ew] at Q0
  have g7 : sS.length = 7 := rfl
  have g1 : ∀ z : Int, ([z] : List Int).length = 1 := fun _ => rfl
  obtain ⟨S1, v1, e1, Q1⟩ := iq_str Q0 hW (by omega) (by omega)
  obtain ⟨S2, v2, e2, Q2⟩ := iq_num (N := N) (x := A) hN Q1 hT (by omega) (by rw [List.length_append]; omega)
  obtain ⟨S3, v3, e3, Q3⟩ := iq_chr (c := 32) Q2 (by decide) (by simp only [List.length_append]; omega)
  obtain ⟨S4, v4, e4, Q4⟩ := iq_num (N := N) (x := P) hN Q3 hT (by omega) (by simp only [List.length_append, g1]; omega)
  obtain ⟨S5, v5, e5, Q5⟩ := iq_chr (c := 59) Q4 (by decide) (by simp only [List.length_append, g1]; omega)
  obtain ⟨y, ey, y0, y1⟩ := lwb_ok (f := J 9) (m := J 8) (n := 255) (by decide) (by decide) x
  obtain ⟨⟨m1, m2, m3, m4, m5⟩, m6⟩ := iq_l Q3
  have r2 : gi v3 (o + 2) k = J P := by rw [gi_rw, (iq_r Q3).2.2, up_same]
  refine ⟨S5, v5, y, ?_, ?_, y0, y1⟩
  · unfold K_lw_init_298
    rw [grd_true _ l5, grd_true _ (vin_of l5 tk (by omega)), clampT tk]
    simp only [lt_def]
    rw [← ew, grd_true _ l1, l6]
    simp only [Option.bind_some]
    rw [grd_true _ (iq_kb Q), e1]
    simp only [Option.bind_some, oc2]
    rw [grd_true _ (iq_kb Q1), e2]
    simp only [Option.bind_some]
    rw [grd_true _ (iq_kb Q2), show J 32 = J ((32 : Nat) : Int) from rfl, e3]
    simp only [Option.bind_some]
    rw [m4]
    simp only [Option.bind_some]
    rw [grd_true _ m5, grd_true _ (vin_of m5 tk (by omega)), grd_true _ (iq_kb Q3), r2, e4]
    simp only [Option.bind_some]
    rw [grd_true _ (iq_kb Q4), show J 59 = J ((59 : Nat) : Int) from rfl, e5]
    simp only [Option.bind_some]
    rw [ey]
    simp only [Option.bind_some]
    rw [← J_add, ← J_add, J_s, show A + (1 + y) = A + 1 + y by omega]
  · unfold sg1
    have e : L ++ sS ++ numL A ++ [((32 : Nat) : Int)] ++ numL P ++ [((59 : Nat) : Int)] = L ++ (sS ++ (numL A ++ ([32] ++ (numL P ++ [59])))) := by simp only [List.append_assoc]; rfl
    rw [← e]
    exact Q5
/-- the segments that were told, k of them -/
def sgC (t p : Nat → Int) (m k : Nat) : Prop := (∀ i, i < k → 0 ≤ t i ∧ t i ≤ 31 + 256 * i ∧ 0 ≤ p i ∧ p i ≤ 64) ∧ (∀ i, i + 1 < k → t i < t (i + 1)) ∧ (k = m → 1 ≤ p (m - 1))
theorem in_loop {H : List Int} {m : Nat} (hN : 100 ≤ N) (hW : wdB S0 v0 o 23 sS) (hT : dtT S0 v0 o) (hp : kin S0 p0 = some (11, n)) (hp0 : p0 < o) (hn : n ≤ 65536) (hm : 1 ≤ m ∧ m ≤ 4) (hf : f0 1 = J (m : Int)) (hH : H.length ≤ 56) : ∀ (q k F : Nat) (A : Int) (t p : Nat → Int) (f1 f2 : Nat → Int32) (S : shp) (v : vl), k + q = m → q < F → IQ S0 v0 o f0 f1 f2 (H ++ sgU t p k) S v → (sgU t p k).length ≤ 15 * k → (∀ i, i < k → f1 i = J (t i) ∧ f2 i = J (p i)) → sgC t p m k → (0 ≤ A ∧ A ≤ 31 + 256 * k ∧ ∀ i, i < k → t i < A) →
    ∃ S' v' t' p' f1' f2', K_lw_init_230 N F S v o p0 (J A) (J (k : Int)) = some (S', v') ∧ IQ S0 v0 o f0 f1' f2' (H ++ sgU t' p' m) S' v' ∧ (∀ i, i < m → f1' i = J (t' i) ∧ f2' i = J (p' i)) ∧ sgC t' p' m m ∧ (sgU t' p' m).length ≤ 15 * m
  | _, _, 0, _, _, _, _, _, _, _, _, h, _, _, _, _, _ => absurd h (Nat.not_lt_zero _)
  | 0, k, F + 1, A, t, p, f1, f2, S, v, hq, _, Q, hl, hv, hC, hA => by
    have : k = m := by omega
    subst this
    refine ⟨S, v, t, p, f1, f2, ?_, Q, hv, hC, hl⟩
    have r1 : gi v o 1 = J (k : Int) := by rw [gi_rw, (iq_r Q).1, hf]
    show Y_lw_init_230 N (K_lw_init_230 N F) S v o p0 _ _ = _
    unfold Y_lw_init_230
    rw [grd_true _ (iq_l Q).1.1, r1, if_neg (fun w => by have := (J_lt (by omega) (by omega)).mp w; omega)]
  | q + 1, k, F + 1, A, t, p, f1, f2, S, v, hq, hF, Q, hl, hv, hC, hA => by
    obtain ⟨⟨l1, l2, l3, l4, l5⟩, l6⟩ := iq_l Q
    have r1 : gi v o 1 = J (m : Int) := by rw [gi_rw, (iq_r Q).1, hf]
    have tk : (J (k : Int)).toInt = ((k : Nat) : Int) := J_toInt (by omega) (by omega)
    obtain ⟨x, ex⟩ := lw_cell_ok (S := S) (i := 2 + k) (by rw [iq_p Q hp0]; exact hp) hn (by omega)
    obtain ⟨w, ew⟩ : ∃ w, w = si v (o + 1) k (J A) := ⟨_, rfl⟩
    have Q0 := (iq_set (x := k) (y := J A) Q).2.1
    rw [← ew] at Q0
    have r1' : gi w o 1 = J (m : Int) := by rw [gi_rw, (iq_r Q0).1, hf]
    have hA3 : 0 ≤ A ∧ A < 1000 := by omega
    have hL : (H ++ sgU t p k).length ≤ 101 := by rw [List.length_append]; omega
    -- what the rest does, once the segment's period is known
    have go : ∀ P : Int, 0 ≤ P ∧ P ≤ 64 → (k + 1 = m → 1 ≤ P) → ∃ S' v' t' p' f1' f2', K_lw_init_298 N (K_lw_init_230 N F) S w o p0 (J A) (J (k : Int)) (x v) (o + 2) (J (k : Int)) (J P) = some (S', v') ∧ IQ S0 v0 o f0 f1' f2' (H ++ sgU t' p' m) S' v' ∧ (∀ i, i < m → f1' i = J (t' i) ∧ f2' i = J (p' i)) ∧ sgC t' p' m m ∧ (sgU t' p' m).length ≤ 15 * m := by
      intro P hP hP1
      obtain ⟨S1, v1, y, e1, Q1, y0, y1⟩ := in_298 (i230 := K_lw_init_230 N F) (x := x v) (p0 := p0) hN Q0 hW hT (show k < 4 by omega) hA3 (show 0 ≤ P ∧ P < 100 by omega) hL
      obtain ⟨T, eT⟩ : ∃ T : Nat → Int, T = fun i => if i = k then A else t i := ⟨_, rfl⟩
      obtain ⟨U, eU⟩ : ∃ U : Nat → Int, U = fun i => if i = k then P else p i := ⟨_, rfl⟩
      have Tk : T k = A := by rw [eT]; exact if_pos rfl
      have Uk : U k = P := by rw [eU]; exact if_pos rfl
      have Tn : ∀ i, i < k → T i = t i := fun i hi => by rw [eT]; exact if_neg (by omega)
      have Un : ∀ i, i < k → U i = p i := fun i hi => by rw [eU]; exact if_neg (by omega)
      have eg : sgU T U (k + 1) = sgU t p k ++ sg1 A P := by
        show sgU T U k ++ sg1 (T k) (U k) = _
        rw [Tk, Uk, sgU_cg k (fun i hi => ⟨Tn i hi, Un i hi⟩)]
      have Q2 : IQ S0 v0 o f0 (up f1 k (J A)) (up f2 k (J P)) (H ++ sgU T U (k + 1)) S1 v1 := by
        rw [eg, ← List.append_assoc]
        exact Q1
      obtain ⟨c1, c2, c3⟩ := hC
      rw [e1]
      have s15 := sg1_len hA3 (show 0 ≤ P ∧ P < 100 by omega)
      refine in_loop hN hW hT hp hp0 hn hm hf hH q (k + 1) F (A + 1 + y) T U _ _ S1 v1 (by omega) (by omega) Q2 (by rw [eg, List.length_append]; omega) (fun i hi => ?_) ⟨fun i hi => ?_, fun i hi => ?_, fun h => ?_⟩ ⟨by omega, by omega, fun i hi => ?_⟩
      · by_cases z : i = k
        · rw [z, up_same, up_same, Tk, Uk]; exact ⟨rfl, rfl⟩
        · rw [up_ne z, up_ne z, Tn i (by omega), Un i (by omega)]
          exact hv i (by omega)
      · by_cases z : i = k
        · rw [z, Tk, Uk]; omega
        · rw [Tn i (by omega), Un i (by omega)]
          exact c1 i (by omega)
      · by_cases z : i + 1 = k
        · rw [z, Tk, Tn i (by omega)]
          exact hA.2.2 i (by omega)
        · rw [Tn i (by omega), Tn (i + 1) (by omega)]
          exact c2 i (by omega)
      · rw [show m - 1 = k by omega, Uk]
        exact hP1 h
      · by_cases z : i = k
        · rw [z, Tk]; omega
        · rw [Tn i (by omega)]
          have := hA.2.2 i (by omega)
          omega
    have bt3 := fun z => lwb_ok (f := J 0) (m := J 3) (n := 7) (by decide) (by decide) z
    obtain ⟨z, ez, z0, z1⟩ := bt3 (x v)
    obtain ⟨y, ey, y0, y1⟩ := lwb_ok (f := J 3) (m := J 6) (n := 63) (by decide) (by decide) (x v)
    have body : Y_lw_init_230 N (K_lw_init_230 N F) S v o p0 (J A) (J (k : Int)) = (if J (k : Int) < J (m : Int) - J 1 then (if J z = J 0 then K_lw_init_298 N (K_lw_init_230 N F) S w o p0 (J A) (J (k : Int)) (x v) (o + 2) (J (k : Int)) (J 0) else K_lw_init_298 N (K_lw_init_230 N F) S w o p0 (J A) (J (k : Int)) (x v) (o + 2) (J (k : Int)) (J (1 + y))) else K_lw_init_298 N (K_lw_init_230 N F) S w o p0 (J A) (J (k : Int)) (x v) (o + 2) (J (k : Int)) (J (1 + y))) := by
      unfold Y_lw_init_230
      rw [grd_true _ l1, r1, if_pos ((J_lt (by omega) (by omega)).mpr (by omega)), ← J_add, show (2 : Int) + (k : Int) = ((2 + k : Nat) : Int) by omega, ex]
      simp only [Option.bind_some]
      rw [l2]
      simp only [Option.bind_some]
      rw [grd_true _ l3, grd_true _ (vin_of l3 tk (by omega)), clampT tk]
      simp only [lt_def]
      rw [← ew, l4]
      simp only [Option.bind_some]
      rw [r1', ez, ey]
      simp only [Option.bind_some]
      rw [← J_add]
    have sh : K_lw_init_230 N (F + 1) S v o p0 (J A) (J (k : Int)) = Y_lw_init_230 N (K_lw_init_230 N F) S v o p0 (J A) (J (k : Int)) := rfl
    rw [sh, body]
    by_cases b1 : J (k : Int) < J (m : Int) - J 1
    · rw [if_pos b1]
      have : k + 1 ≠ m := fun e => by
        rw [← J_sub] at b1
        have := (J_lt (by omega) (by omega)).mp b1
        omega
      by_cases b2 : J z = J 0
      · rw [if_pos b2]
        exact go 0 (by decide) (fun e => absurd e this)
      · rw [if_neg b2]
        exact go (1 + y) (by omega) (fun _ => by omega)
    · rw [if_neg b1]
      exact go (1 + y) (by omega) (fun _ => by omega)
end LAWINIT