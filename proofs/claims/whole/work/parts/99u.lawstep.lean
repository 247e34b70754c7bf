/-! The law: one call, both sides. -/
section LAWSTEP
variable {S S' : shp} {v w v' u : vl} {a b m N n q r len l k oa p0 : Nat} {ln : Nat → Nat} {W : Nat → Nat → Int} {s : full} {i23 : shp → vl → Nat → Nat → Nat → Nat → Int32 → Option (Int32 × shp × vl)}
theorem lg_self {y : Int64} : lg_cmp y y = J 0 := by
  unfold lg_cmp
  rw [if_neg (fun h => by have := Int64.lt_iff_toInt_lt.mp h; omega), if_pos rfl]
  rfl
/-- behind the call on the class that may throw: the model's, and the comparison -/
noncomputable def lwT (N : Nat) (i23 : shp → vl → Nat → Nat → Nat → Nat → Int32 → Option (Int32 × shp × vl)) (S' : shp) (p0 a m oa : Nat) (p4 : Int32) (x : Int32) (F : Option (Int32 × vl)) : Option (Int32 × shp × vl) := grd (kin S' m = some (0, 6)) <| F.bind fun (x651, w652) => (F_gm_thrown m S' w652).bind fun x653 => (if x653 = x then (if x = (J 0) then grd (kin S' oa = some (3, alen S' oa)) <| grd (vp_in (J 0) (alen S' oa)) <| (if (lg_cmp (gl w652 oa 0) (Int32.toInt64 x651)) = (J 0) then K_lw_law_2723 N i23 S' w652 p0 a m oa p4 else some (((J 0), S', w652))) else K_lw_law_2723 N i23 S' w652 p0 a m oa p4) else some (((J 0), S', w652)))
/-- what the class's call left, told by the law's helper -/
def LW (S : shp) (v : vl) (a m oa p0 n : Nat) (ln : Nat → Nat) (W : Nat → Nat → Int) (q : Nat) (s : full) (o : Nat ⊕ (Int × full)) (S' : shp) (v' : vl) : Prop := wfS S' ∧ cX S' v' a (uSt s o) (q + 1) ∧ dX S' v' m s ∧ OT S' v' a m oa p0 n ln W ∧ gw S S' ∧ rw v' p0 = rw v p0 ∧ (uThr o = 0 → gl v' oa 0 = Int32.toInt64 (J (uVal o)))
def thB (o : Nat ⊕ (Int × full)) : Prop := ∀ c, o = .inl c → 0 < c ∧ c < 100
theorem uThr_B {o : Nat ⊕ (Int × full)} (h : thB o) : 0 ≤ uThr o ∧ uThr o < 100 := by
  cases o with
  | inl c =>
    have := h c rfl
    show 0 ≤ (c : Int) ∧ (c : Int) < 100
    omega
  | inr y => exact ⟨Int.le_refl _, (show (0 : Int) < 100 by decide)⟩
theorem law_tail {o : Nat ⊕ (Int × full)} {mF : Option (Int32 × vl)} {p4 : Int32} (hL : LW S v a m oa p0 n ln W q s o S' v') (hB : thB o) (hM : UM mF s o S' v' m) :
    ∃ u, lwT N i23 S' p0 a m oa p4 (J (uThr o)) mF = K_lw_law_2723 N i23 S' u p0 a m oa p4 ∧ LI S' u a m oa p0 n ln W (q + 1) := by
  obtain ⟨h1, h2, h3, h4, h5, h6, h7⟩ := hL
  obtain ⟨u, m1, m2, m3, m4⟩ := hM
  have hl := h3.1
  have tB := uThr_B hB
  have ko : kin S' oa = some (3, 1) := h4.2.2.2.1.2.1
  refine ⟨u, ?_, LI_ch h1 h2 m2 h4 m3⟩
  unfold lwT
  rw [grd_true _ hl.1, m1]
  simp only [Option.bind_some]
  unfold F_gm_thrown
  rw [grd_true _ hl.1, gi_rw, m4]
  simp only [Option.bind_some, if_true]
  by_cases z : uThr o = 0
  · have eg : gl u oa 0 = Int32.toInt64 (J (uVal o)) := by
      rw [← h7 z]
      show u.2 oa 0 = v'.2 oa 0
      rw [m3.1]
    rw [if_pos (by rw [z]), grd_true _ (by rw [alen_of ko]; exact ko), grd_true _ (vin_of (k := 0) ko (by decide) (by decide)), eg, lg_self, if_pos rfl]
  · rw [if_neg (fun y => z ((J_eq (by omega) (by decide)).mp y))]
theorem lw_UC {F : Option (Nat ⊕ (Int32 × shp × vl))} {f : Nat → Nat} {o : Nat ⊕ (Int × full)} {thr : Nat → Option (Int32 × shp × vl)} (hw : wfS S) (hR : cX S v a s q) (hd : dX S v m s) (hO : OT S v a m oa p0 n ln W) (hU : UC F f o a (q + 1) S v) (hthr : ∀ c, o = .inl c → thr (f c) = some (J (c : Int), skip S 6, v)) (hB : thB o) :
    ∃ S' v', bx F thr (fun (x2, S3, w4) => grd (kin S3 oa = some (3, alen S3 oa)) <| grd (vp_in (J 0) (alen S3 oa)) <| lt (sl w4 oa 0 (Int32.toInt64 x2)) fun w8 => some (((J 0), S3, w8))) = some (J (uThr o), S', v') ∧ LW S v a m oa p0 n ln W q s o S' v' := by
  cases o with
  | inl c =>
    have hU' : F = some (.inl (f c)) := hU
    have c0 := (hB c rfl).1
    refine ⟨skip S 6, v, ?_, wf_skip hw, ?_, ?_, ?_, gw_skip, rfl, fun z => ?_⟩
    · rw [hU', bx_l, hthr c rfl]
      rfl
    · show cR (skip S 6) v a _ _ _ _ _ _ (q + 1)
      rw [cR_skip]
      exact cR_q hR (by omega)
    · show dR (skip S 6) v m _ _ _ _ _ _
      rw [dR_skip]
      exact hd
    · rw [OT_skip]
      exact hO
    · have z' : (c : Int) = 0 := z
      omega
  | inr y =>
    obtain ⟨S3, w4, e1, e2, e3, e4⟩ := hU
    have hl := hd.1
    have ham := hO.2.2.2.1.1
    have hO3 := OT_exg hO hR.1 hl hw e4
    have ko : kin S3 oa = some (3, 1) := hO3.2.2.2.1.2.1
    refine ⟨S3, sl w4 oa 0 (Int32.toInt64 (J y.1)), ?_, e2, ?_, ?_, ?_, gw_exg e4 (by decide) (by decide), ?_, fun _ => ?_⟩
    · rw [e1, bx_r]
      show grd (kin S3 oa = some (3, alen S3 oa)) _ = _
      rw [grd_true _ (by rw [alen_of ko]; exact ko), grd_true _ (vin_of (k := 0) ko (by decide) (by decide))]
      rfl
    · show cR S3 (sl w4 oa 0 (Int32.toInt64 (J y.1))) a _ _ _ _ _ _ (q + 1)
      rw [cR_sl]
      exact e3
    · show dR S3 (sl w4 oa 0 (Int32.toInt64 (J y.1))) m _ _ _ _ _ _
      rw [dR_sl]
      exact dR_exL hd hw ham (exL_exg e4)
    · rw [OT_sl]
      exact hO3
    · show rw w4 p0 = rw v p0
      have hp := hO.2.2.2.2
      exact (e4.2.1 p0 (by omega) (by omega) (kin_lt hw hp.1)).1
    · show (if oa = oa ∧ (0 : Nat) = 0 then Int32.toInt64 (J y.1) else w4.2 oa 0) = _
      rw [if_pos ⟨rfl, rfl⟩]
      rfl
/-- a question's outcome as a change's that changes nothing -/
def liO (o : Nat ⊕ Int) (s : full) : Nat ⊕ (Int × full) := match o with
  | .inl c => .inl c
  | .inr x => .inr (x, s)
theorem UC_QC {F : Option (Nat ⊕ (Int32 × shp × vl))} {f : Nat → Nat} {o : Nat ⊕ Int} (h : QC F f o (PC a s.1 s.2.1 s.2.2.1 s.2.2.2.1 s.2.2.2.2.1 s.2.2.2.2.2 q S v)) : UC F f (liO o s) a (q + 1) S v := by
  cases o with
  | inl c => exact h
  | inr x =>
    obtain ⟨S', v', h1, h2, h3, h4⟩ := h
    exact ⟨S', v', h1, h2, cR_q h3 (by omega), h4⟩
theorem UD_QD {F : Option (Int32 × shp × vl)} {x : Int} (h : QD F x (PC a s.1 s.2.1 s.2.2.1 s.2.2.2.1 s.2.2.2.2.1 s.2.2.2.2.2 q S v)) : UD F (x, s) a (q + 1) S v := by
  obtain ⟨S', v', h1, h2, h3, h4⟩ := h
  exact ⟨S', v', h1, h2, cR_q h3 (by omega), h4⟩
theorem UM_QM {F : Option (Int32 × vl)} {o : Nat ⊕ Int} (hd : dX S v m s) (hs : sV s.1) (h : QM F o (fun v' => mqt m v v' (oThr o))) : UM F s (liO o s) S v m := by
  obtain ⟨v', h1, h2⟩ := h
  have hd' := dR_mqt hd hs h2
  cases o with
  | inl c => exact ⟨v', h1, hd', mch_mqt h2, h2.2.2.2.2⟩
  | inr x => exact ⟨v', h1, hd', mch_mqt h2, h2.2.2.2.2⟩
theorem QM_th {F : Option (Int32 × vl)} {o : Nat ⊕ Int} (h : F = some (J (oVal o), th v m (oThr o))) : QM F o (fun v' => mqt m v v' (oThr o)) := ⟨_, h, mqt_th⟩
theorem thB_li {o : Nat ⊕ Int} (h : ∀ c, o = .inl c → 0 < c ∧ c < 100) : thB (liO o s) := by
  intro c hc
  cases o with
  | inl d =>
    have hc' : (Sum.inl d : Nat ⊕ (Int × full)) = .inl c := hc
    cases hc'
    exact h _ rfl
  | inr x =>
    have hc' : (Sum.inr (x, s) : Nat ⊕ (Int × full)) = .inl c := hc
    cases hc'
theorem li_inl {o : Nat ⊕ Int} {c : Nat} (h : liO o s = .inl c) : o = .inl c := by
  cases o with
  | inl d =>
    have hc' : (Sum.inl d : Nat ⊕ (Int × full)) = .inl c := h
    cases hc'
    rfl
  | inr x =>
    have hc' : (Sum.inr (x, s) : Nat ⊕ (Int × full)) = .inl c := h
    cases hc'
/-- a question of the class that makes nothing -/
theorem lw_C {F : Option (Nat ⊕ Int32)} {f : Nat → Nat} {o : Nat ⊕ Int} {thr : Nat → Option (Int32 × shp × vl)} (hw : wfS S) (hR : cX S v a s q) (hd : dX S v m s) (hO : OT S v a m oa p0 n ln W) (hU : F = some (rC f o)) (hthr : ∀ c, o = .inl c → thr (f c) = some (J (c : Int), skip S 6, v)) (hB : ∀ c, o = .inl c → 0 < c ∧ c < 100) :
    ∃ S' v', bx F thr (fun x2 => grd (kin S oa = some (3, alen S oa)) <| grd (vp_in (J 0) (alen S oa)) <| lt (sl v oa 0 (Int32.toInt64 x2)) fun w5 => some (((J 0), S, w5))) = some (J (uThr (liO o s)), S', v') ∧ LW S v a m oa p0 n ln W q s (liO o s) S' v' := by
  have ko : kin S oa = some (3, 1) := hO.2.2.2.1.2.1
  cases o with
  | inl c =>
    have c0 := (hB c rfl).1
    refine ⟨skip S 6, v, ?_, wf_skip hw, ?_, ?_, ?_, gw_skip, rfl, fun z => ?_⟩
    · rw [hU]
      show thr (f c) = _
      rw [hthr c rfl]
      rfl
    · show cR (skip S 6) v a _ _ _ _ _ _ (q + 1)
      rw [cR_skip]
      exact cR_q hR (by omega)
    · show dR (skip S 6) v m _ _ _ _ _ _
      rw [dR_skip]
      exact hd
    · rw [OT_skip]
      exact hO
    · have z' : (c : Int) = 0 := z
      omega
  | inr x =>
    refine ⟨S, sl v oa 0 (Int32.toInt64 (J x)), ?_, hw, ?_, ?_, ?_, gw_0, rfl, fun _ => ?_⟩
    · rw [hU]
      show grd (kin S oa = some (3, alen S oa)) _ = _
      rw [grd_true _ (by rw [alen_of ko]; exact ko), grd_true _ (vin_of (k := 0) ko (by decide) (by decide))]
      rfl
    · show cR S (sl v oa 0 (Int32.toInt64 (J x))) a _ _ _ _ _ _ (q + 1)
      rw [cR_sl]
      exact cR_q hR (by omega)
    · show dR S (sl v oa 0 (Int32.toInt64 (J x))) m _ _ _ _ _ _
      rw [dR_sl]
      exact hd
    · rw [OT_sl]
      exact hO
    · show (if oa = oa ∧ (0 : Nat) = 0 then Int32.toInt64 (J x) else v.2 oa 0) = _
      rw [if_pos ⟨rfl, rfl⟩]
      rfl
/-- a call that doesn't throw -/
theorem law_D {cF : Option (Int32 × shp × vl)} {mF : shp → vl → Option (Int32 × vl)} {y : Int × full} (hw : wfS S) (hR : cX S v a s q) (hd : dX S v m s) (hO : OT S v a m oa p0 n ln W) (hU : UD cF y a (q + 1) S v) (hM : ∀ (S' : shp) (u : vl), dX S' u m s → UM (mF S' u) s (.inr y) S' u m) :
    ∃ S' v' u, cF = some (J y.1, S', v') ∧ mF S' v' = some (J y.1, u) ∧ mdL S' m ∧ rw v' p0 = rw v p0 ∧ kin S' p0 = some (11, n) ∧ LI S' u a m oa p0 n ln W (q + 1) ∧ gw S S' := by
  obtain ⟨S3, w4, e1, e2, e3, e4⟩ := hU
  have ham := hO.2.2.2.1.1
  have hO3 := OT_exg hO hR.1 hd.1 hw e4
  have hd3 : dX S3 w4 m s := dR_exL hd hw ham (exL_exg e4)
  obtain ⟨u, m1, m2, m3, m4⟩ := hM S3 w4 hd3
  have hp := hO.2.2.2.2
  exact ⟨S3, w4, u, e1, m1, hd3.1, (e4.2.1 p0 (by omega) (by omega) (kin_lt hw hp.1)).1, hO3.2.2.2.2.1, LI_ch e2 e3 m2 hO3 m3, gw_exg e4 (by decide) (by decide)⟩
def ST (N : Nat) (i23 : shp → vl → Nat → Nat → Nat → Nat → Int32 → Option (Int32 × shp × vl)) (S : shp) (p0 a m oa k n : Nat) (ln : Nat → Nat) (W : Nat → Nat → Int) (q : Nat) (F : Option (Int32 × shp × vl)) : Prop := ∃ S' v', F = K_lw_law_2723 N i23 S' v' p0 a m oa (J (k : Int)) ∧ LI S' v' a m oa p0 n ln W (q + 1) ∧ gw S S'
/-- the script's ints -/
theorem sc_in {j : Nat} (hp : kin S p0 = some (11, n)) (hk : k + 5 < n ∧ n ≤ 100000) (hj : j ≤ 5) : vp_in (J (k : Int) + J (j : Int)) (alen S p0) := by
  have e : (J (k : Int) + J (j : Int)).toInt = ((k + j : Nat) : Int) := by
    rw [← J_add, J_toInt (by omega) (by omega)]
    rfl
  exact vin_of hp e (by omega)
theorem sc_ar (x : Int32) : ∃ z : Int, x = J z ∧ (-2147483648 ≤ z ∧ z < 2147483648) := ⟨x.toInt, (J_of _).symm, i_rng x⟩
theorem sc_P (hp : kin S p0 = some (11, n)) : kin S p0 = some (1, alen S p0) ∨ kin S p0 = some (11, alen S p0) := Or.inr (by rw [alen_of hp]; exact hp)
end LAWSTEP
