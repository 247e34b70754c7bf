/-! The law's text: lists of signs, and the builder that gets them. -/
section LAWTEXT
def asL (L : List Int) : Nat → Int := fun i => (L[i]?).getD 0
theorem asL_l {L M : List Int} {i : Nat} (h : i < L.length) : asL (L ++ M) i = asL L i := by
  unfold asL
  rw [List.getElem?_append_left h]
theorem asL_r {L M : List Int} {i : Nat} : asL (L ++ M) (L.length + i) = asL M i := by
  unfold asL
  rw [List.getElem?_append_right (by omega), show L.length + i - L.length = i by omega]
/-- a number's digits -/
def digL (y : Nat) : List Int := (List.range (nd y)).map (fun i => ((48 + dg y (nd y - 1 - i) : Nat) : Int))
def numL (x : Int) : List Int := (if x < 0 then [45] else []) ++ digL x.natAbs
theorem digL_len (y : Nat) : (digL y).length = nd y := by unfold digL; rw [List.length_map, List.length_range]
theorem digL_at {y i : Nat} (h : i < nd y) : asL (digL y) i = ((48 + dg y (nd y - 1 - i) : Nat) : Int) := by
  unfold asL digL
  rw [List.getElem?_map, List.getElem?_range h]
  rfl
theorem numL_len (x : Int) : (numL x).length = sgL' x := by
  unfold numL sgL'
  rw [List.length_append, digL_len]
  by_cases h : x < 0
  · rw [if_pos h, if_pos h]; rfl
  · rw [if_neg h, if_neg h]; rfl
theorem nd_le {y d : Nat} (h : y < pt d) (hd : 1 ≤ d ∧ d ≤ 9) : nd y ≤ d := by
  have hm := pt_mono hd.2
  have p9 : pt 9 = 1000000000 := by decide
  obtain ⟨⟨a1, a2, a3⟩, -⟩ := nd_B (y := y) (by omega)
  rcases a3 with q | q
  · omega
  · by_cases z : nd y ≤ d
    · exact z
    · have := pt_mono (show d ≤ nd y - 1 by omega)
      omega
theorem nd_1 {y : Nat} (h : y < 10000000000) : 1 ≤ nd y := (nd_B h).1.2.1
variable {S S' S0 : shp} {v v' v0 : vl} {a b o N q k l r len n j : Nat} {O O' : Nat → Int} {L M : List Int}
theorem OC_cg (h : OC S v b l O r len) (he : ∀ i, i < l → O i = O' i) : OC S v b l O' r len := by
  obtain ⟨h1, h2, h3, h4, h5, h6, h7⟩ := h
  exact ⟨h1, h2, h3, h4, h5, h6, fun i hi => by rw [← he i hi]; exact h7 i hi⟩
def OL (S : shp) (v : vl) (b : Nat) (L : List Int) (r len : Nat) : Prop := OC S v b L.length (asL L) r len
theorem put1_L {c : Int} {i : Nat} (h : i < L.length + 1) : put1 (asL L) L.length c i = asL (L ++ [c]) i := by
  unfold put1
  by_cases z : i = L.length
  · rw [if_pos z, z]
    have := asL_r (L := L) (M := [c]) (i := 0)
    rw [Nat.add_zero] at this
    rw [this]
    rfl
  · rw [if_neg z, asL_l (by omega)]
theorem ol_char {c : Nat} (hw : wfS S) (hO : OL S v b L r len) (hc : c < 128) (hl : L.length + 1 ≤ 142) :
    ∃ S' v' r' len', F_sb_append3 b (J (c : Int)) S v = some (some b, S', v') ∧ OL S' v' b (L ++ [(c : Int)]) r' len' ∧ exP b r len S v S' v' r' len' := by
  obtain ⟨S', v', r', len', e1, e2, e3⟩ := sb_char hw hO hc hl
  refine ⟨S', v', r', len', e1, ?_, e3⟩
  unfold OL
  rw [List.length_append]
  exact OC_cg e2 (fun i hi => put1_L hi)
theorem ol_num {x : Int} (hN : 100 ≤ N) (hw : wfS S) (hT : dtT S v a) (hO : OL S v b L r len) (hx : -2147483648 < x ∧ x < 2147483648) (hl : L.length + 11 ≤ 142) (hab : a ≤ b) (har : a ≤ r) :
    ∃ S' v' r' len', F_sb_append2 N b (J x) S v = some (some b, S', v') ∧ OL S' v' b (L ++ numL x) r' len' ∧ exP b r len S v S' v' r' len' := by
  obtain ⟨S', v', r', len', e1, e2, e3⟩ := sb_num hN hw hT hO hx hl hab har
  refine ⟨S', v', r', len', e1, ?_, e3⟩
  unfold OL
  rw [List.length_append, numL_len]
  have hn := nd_B (y := x.natAbs) (by omega)
  have nt : ∀ (P : List Int) (i : Nat), i < P.length + nd x.natAbs → nuT (asL P) P.length 10 x.natAbs (nd x.natAbs) i = asL (P ++ digL x.natAbs) i := by
    intro P i hi
    unfold nuT
    by_cases z : P.length ≤ i
    · rw [if_pos ⟨z, hi⟩, if_pos (by omega)]
      have := asL_r (L := P) (M := digL x.natAbs) (i := i - P.length)
      rw [show P.length + (i - P.length) = i by omega] at this
      rw [this, digL_at (by omega), show P.length + nd x.natAbs - 1 - i = nd x.natAbs - 1 - (i - P.length) by omega]
    · rw [if_neg (fun q => z q.1), asL_l (by omega)]
  refine OC_cg e2 (fun i hi => ?_)
  unfold sgT numL
  unfold sgL' at hi
  by_cases h : x < 0
  · rw [if_pos h] at hi
    rw [if_pos h, if_pos h, ← List.append_assoc]
    have el : (L ++ [(45 : Int)]).length = L.length + 1 := by rw [List.length_append]; rfl
    rw [← nt (L ++ [45]) i (by rw [el]; omega), el]
    unfold nuT
    by_cases z : L.length + 1 ≤ i ∧ i < L.length + 1 + nd x.natAbs
    · rw [if_pos z, if_pos z]
    · rw [if_neg z, if_neg z]
      exact put1_L (by omega)
  · rw [if_neg h] at hi
    rw [if_neg h, if_neg h, List.nil_append]
    exact nt L i (by omega)
/-- a constant text, by its signs -/
def wdB (S : shp) (v : vl) (a j : Nat) (M : List Int) : Prop := kin S (kad S j) = some (20, 0) ∧ kad S j < a ∧ rw v (kad S j) 1 = J 0 ∧ M.length ≤ 20 ∧ ∃ r, gr S (kad S j) 0 = some r ∧ r < a ∧ kin S r = some (12, M.length) ∧ ∀ k, k < M.length → rw v r k = J (asL M k) ∧ 0 ≤ asL M k ∧ asL M k < 128
theorem by_128 : ∀ c : Fin 128, Int8.toInt32 (Int32.toInt8 (J ((c.val : Nat) : Int))) = J ((c.val : Nat) : Int) := by decide +kernel
theorem cpy_w {a0 sp dp m : Nat} : cpy v a0 sp b dp m = wr v b (fun k => if dp ≤ k ∧ k < dp + m then rw v a0 (sp + (k - dp)) else rw v b k) := by
  unfold cpy wr
  refine Prod.ext ?_ rfl
  funext x y
  show (if x = b ∧ dp ≤ y ∧ y < dp + m then v.1 a0 (sp + (y - dp)) else v.1 x y) = (if x = b then _ else v.1 x) y
  by_cases hx : x = b
  · rw [if_pos hx, hx]
    by_cases hy : dp ≤ y ∧ y < dp + m
    · rw [if_pos ⟨rfl, hy⟩]
      show _ = if dp ≤ y ∧ y < dp + m then _ else _
      rw [if_pos hy]
      rfl
    · rw [if_neg (fun q => hy q.2)]
      show _ = if dp ≤ y ∧ y < dp + m then _ else _
      rw [if_neg hy]
      rfl
  · rw [if_neg (fun q => hx q.1), if_neg hx]
theorem wdB_len (h : wdB S v a j M) : F_js_length (kad S j) S v = some (J (M.length : Int)) := by
  obtain ⟨h1, h2, h3, h4, r, g1, g2, g3, g4⟩ := h
  unfold F_js_length F_js_coder
  rw [grd_true _ h1, g1]
  simp only [Option.bind_some]
  rw [grd_true _ ⟨12, M.length, g3, by decide⟩, grd_true _ h1, gi_rw, h3, grd_true _ (by decide)]
  simp only [Option.bind_some]
  rw [alen_of g3, shr_0]
  rfl
theorem wdB_exP {r' len' : Nat} (h : wdB S v a j M) (hw : wfS S) (hb : a ≤ b) (hr : a ≤ r) (he : exP b r len S v S' v' r' len') : wdB S' v' a j M := by
  obtain ⟨h1, h2, h3, h4, w, g1, g2, g3, g4⟩ := h
  obtain ⟨x1, x2, x3, x4, x5, -⟩ := he
  have n1 := kin_lt hw h1
  have n2 := kin_lt hw g3
  unfold wdB
  rw [x5, x4 _ n1, x2 _ n1 (by omega) (by omega)]
  refine ⟨h1, h2, h3, h4, w, by rw [x3 _ n1 0 (Or.inl (by omega))]; exact g1, g2, by rw [x4 _ n2]; exact g3, fun k hk => by rw [x2 _ n2 (by omega) (by omega)]; exact g4 k hk⟩
theorem ol_str (hw : wfS S) (hW : wdB S v a j M) (hO : OL S v b L r len) (hl : L.length + M.length ≤ 142) (hM : M.length ≤ 16) (hab : a ≤ b) (har : a ≤ r) :
    ∃ S' v' r' len', F_sb_append b (kad S j) S v = some (some b, S', v') ∧ OL S' v' b (L ++ M) r' len' ∧ exP b r len S v S' v' r' len' := by
  obtain ⟨k0, ⟨c1, c3⟩, g0, kr, hb, hbt, ht⟩ := id hO
  obtain ⟨S1, v1, r1, len1, e1, O1, h1, X1, eb⟩ := ab_ensure (mn := L.length + M.length) hw hO hl (by omega)
  obtain ⟨q0, ⟨d1, d3⟩, f0, qr, pb, pbt, pt'⟩ := id O1
  have hrb := OC_ne O1
  have W1 := wdB_exP hW hw hab har X1
  have ek : kad S1 j = kad S j := by rw [X1.2.2.2.2.1]
  have har1 : a ≤ r1 := by
    rcases X1.2.2.2.2.2.2.2.2.2.1 with z | z
    · omega
    · have := kin_lt hw hW.1
      have := kin_lt hw kr
      omega
  obtain ⟨w1, w2, w3, w4, rs, g1, g2, g3, g4⟩ := id W1
  rw [ek] at w1 w2 w3 g1
  have tl : Int32.toNatClampNeg (J (L.length : Int)) = L.length := clampT (J_toInt (by omega) (by omega))
  have tm : Int32.toNatClampNeg (J (M.length : Int)) = M.length := clampT (J_toInt (by omega) (by omega))
  have t0 : Int32.toNatClampNeg (J 0) = 0 := by decide
  have em : nI (alen S1 rs) = J (M.length : Int) := by rw [alen_of g3]; rfl
  have hne : rs ≠ r1 := by omega
  have bts1 : ∀ k, k < M.length → ∃ y : Int32, J (asL M k) = Int8.toInt32 (Int32.toInt8 y) := fun k hk => by
    obtain ⟨-, z1, z2⟩ := g4 k hk
    have := by_128 ⟨(asL M k).toNat, by omega⟩
    have e : (((asL M k).toNat : Nat) : Int) = asL M k := by omega
    exact ⟨J (asL M k), by rw [← e]; exact this.symm⟩
  have nn : ∀ z : Nat, z ≤ 200 → ¬ J (z : Int) < 0 := fun z hz w => by have := (J_lt (x := (z : Int)) (y := 0) (by omega) (by decide)).mp w; omega
  obtain ⟨F, eF⟩ : ∃ F : Nat → Int32, F = fun k => if L.length ≤ k ∧ k < L.length + M.length then rw v1 rs (0 + (k - L.length)) else rw v1 r1 k := ⟨_, rfl⟩
  refine ⟨S1, wr (wr v1 r1 F) b (up (rw v1 b) 3 (J ((L.length + M.length : Nat) : Int))), r1, len1, ?_, ?_, exP_tr X1 (exP_tr (exP_wr (Or.inr rfl)) (exP_wr (Or.inl rfl)))⟩
  · unfold F_sb_append F_ab_append
    rw [grd_true _ k0, grd_true _ hW.1, wdB_len hW]
    simp only [Option.bind_some]
    rw [grd_true _ k0, gi_rw, c3, ← J_add, ← Int.natCast_add, e1]
    simp only [Option.bind_some]
    have ep : F_ab_putStringAt b (gi v1 b 3) (kad S j) S1 v1 = some (wr v1 r1 F) := by
      unfold F_ab_putStringAt F_ab_inflateIfNeededFor F_js_getBytes F_js_coder
      rw [grd_true _ q0, grd_true _ q0, grd_true _ w1, grd_true _ w1, gi_rw, gi_rw, gi_rw, w3, grd_true _ (by decide), d1, d3]
      simp only [Option.bind_some, if_true]
      rw [f0]
      simp only [Option.bind_some]
      rw [g1]
      simp only [Option.bind_some]
      rw [grd_true _ w1, grd_true _ w1, grd_true _ ⟨12, M.length, g3, by decide⟩, grd_true _ (Or.inr (by rw [alen_of g3]; exact g3)), grd_true _ (by rw [alen_of qr]; exact qr), em, shl_0, tl, tm, t0,
        grd_true _ ⟨⟨by decide, nn _ (by omega), nn _ (by omega)⟩, by rw [alen_of g3]; omega, by rw [alen_of qr]; omega, fun i hi => by
          obtain ⟨y, hy⟩ := bts1 (0 + i) (by omega)
          rw [gi_rw, (g4 (0 + i) (by omega)).1, hy]
          exact pk_fb y⟩]
      simp only [lt_def]
      rw [cpy_w, ← eF]
      rfl
    rw [ep]
    simp only [Option.bind_some, lt_def, si_wr, gi_x, oc2]
    rw [rw_wr_ne hrb.symm, d3, ← J_add, ← Int.natCast_add]
  · unfold OL
    rw [List.length_append]
    refine ⟨q0, ⟨?_, ?_⟩, f0, qr, by omega, fun i => ?_, fun i hi => ?_⟩
    · rw [rw_wr, up_ne (by decide)]; exact d1
    · rw [rw_wr, up_same]
    · rw [rw_wr_ne hrb, rw_wr, eF]
      simp only []
      by_cases z : L.length ≤ i ∧ i < L.length + M.length
      · rw [if_pos z, (g4 _ (by omega)).1]
        exact bts1 _ (by omega)
      · rw [if_neg z]
        exact pbt i
    · rw [rw_wr_ne hrb, rw_wr, eF]
      simp only []
      by_cases z : L.length ≤ i ∧ i < L.length + M.length
      · rw [if_pos z]
        obtain ⟨y1, y2, y3⟩ := g4 (0 + (i - L.length)) (by omega)
        have := asL_r (L := L) (M := M) (i := i - L.length)
        rw [show L.length + (i - L.length) = i by omega] at this
        rw [y1, this, Nat.zero_add]
        rw [Nat.zero_add] at y2 y3
        have e : (((asL M (i - L.length)).toNat : Nat) : Int) = asL M (i - L.length) := by omega
        rw [← e]
        exact chr_7 ⟨(asL M (i - L.length)).toNat, by omega⟩
      · rw [if_neg z, asL_l (by omega)]
        exact pt' i (by omega)
end LAWTEXT
