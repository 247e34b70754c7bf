/-! What is printed: the class's builder. -/
section BUILDER
variable {S S' : shp} {v w v' : vl} {a b m N n l r len : Nat} {O : Nat → Int}
/-- bytes in a row -/
def bts (R : Nat → Int32) : Prop := ∀ i, ∃ y : Int32, R i = Int8.toInt32 (Int32.toInt8 y)
theorem bts_up {R : Nat → Int32} {k : Nat} {y : Int32} (h : bts R) : bts (up R k (Int8.toInt32 (Int32.toInt8 y))) := by
  intro i
  by_cases z : i = k
  · exact ⟨y, by rw [z, up_same]⟩
  · rw [up_ne z]
    exact h i
theorem shr_0 (x : Int32) : x >>> (J 0 &&& 31) = x := by
  rw [show (J 0 &&& 31) = 0 by decide]
  simp
theorem shl_0 (x : Int32) : x <<< (J 0 &&& 31) = x := by
  rw [show (J 0 &&& 31) = 0 by decide]
  simp
/-- a builder at b with text O of length l; its bytes lie at r, len of them -/
def OC (S : shp) (v : vl) (b l : Nat) (O : Nat → Int) (r len : Nat) : Prop := kin S b = some (0, 7) ∧ (rw v b 1 = J 0 ∧ rw v b 3 = J (l : Int)) ∧ gr S b 0 = some r ∧ kin S r = some (2, len) ∧ (l ≤ len ∧ (len = 16 ∨ len = 34 ∨ len = 70 ∨ len = 142)) ∧ bts (rw v r) ∧ ∀ i, i < l → rw v r i &&& J 255 = J (O i)
/-- what a builder's call leaves -/
def exP (b r len : Nat) (S : shp) (v : vl) (S' : shp) (v' : vl) (r' len' : Nat) : Prop := (∀ x, x < nxt S → v'.2 x = v.2 x) ∧ (∀ x, x < nxt S → x ≠ b → x ≠ r → rw v' x = rw v x) ∧ (∀ x, x < nxt S → ∀ j, (x ≠ b ∨ j ≠ 0) → gr S' x j = gr S x j) ∧ (∀ x, x < nxt S → kin S' x = kin S x) ∧ kad S' = kad S ∧ bas S' = bas S ∧ (cn S ≤ cn S' ∧ 18 * (cn S' - cn S) ≤ len' - len) ∧ (cz S ≤ cz S' ∧ cz S' - cz S ≤ 2 * (len' - len)) ∧ len ≤ len' ∧ (r' = r ∨ nxt S ≤ r') ∧ (wfS S → wfS S')
theorem exP_refl : exP b r len S v S v r len := ⟨fun _ _ => rfl, fun _ _ _ _ => rfl, fun _ _ _ _ => rfl, fun _ _ => rfl, rfl, rfl, ⟨Nat.le_refl _, by omega⟩, ⟨Nat.le_refl _, by omega⟩, Nat.le_refl _, Or.inl rfl, fun h => h⟩
theorem exP_nx {r' len' : Nat} (h : exP b r len S v S' v' r' len') : nxt S ≤ nxt S' := by
  obtain ⟨-, -, -, -, -, h6, h7, -⟩ := h
  unfold nxt
  rw [h6]
  omega
theorem exP_tr {S1 : shp} {v1 : vl} {r1 len1 r2 len2 : Nat} (h1 : exP b r len S v S1 v1 r1 len1) (h2 : exP b r1 len1 S1 v1 S' v' r2 len2) : exP b r len S v S' v' r2 len2 := by
  have hn := exP_nx h1
  obtain ⟨a1, a2, a3, a4, a5, a6, a7, a8, a9, a10, a11⟩ := h1
  obtain ⟨b1, b2, b3, b4, b5, b6, b7, b8, b9, b10, b11⟩ := h2
  refine ⟨fun x hx => (b1 x (by omega)).trans (a1 x hx), fun x hx hb hr => (b2 x (by omega) hb (by omega)).trans (a2 x hx hb hr), fun x hx j hj => (b3 x (by omega) j hj).trans (a3 x hx j hj), fun x hx => (b4 x (by omega)).trans (a4 x hx), b5.trans a5, b6.trans a6, ⟨by omega, by omega⟩, ⟨by omega, by omega⟩, by omega, by omega, fun h => b11 (a11 h)⟩
theorem exP_wr {f : Nat → Int32} {x : Nat} (hx : x = b ∨ x = r) : exP b r len S v S (wr v x f) r len := ⟨fun _ _ => rfl, fun y _ hb hr => rw_wr_ne (by omega), fun _ _ _ _ => rfl, fun _ _ => rfl, rfl, rfl, ⟨Nat.le_refl _, by omega⟩, ⟨Nat.le_refl _, by omega⟩, Nat.le_refl _, Or.inl rfl, fun h => h⟩
theorem OC_ne (h : OC S v b l O r len) : r ≠ b := fun e => by
  have h1 := h.1
  have h2 := h.2.2.2.1
  rw [e, h1] at h2
  cases h2
theorem lt3_def {α β γ δ : Type} (x : α) (y : β) (z : γ) (f : α → β → γ → δ) : lt3 x y z f = f x y z := rfl
theorem ab_newCap {mn : Nat} (hO : OC S v b l O r len) (h1 : len < mn) (h2 : mn ≤ 142) (h3 : mn ≤ 2 * len + 2) : F_ab_newCapacity b (J (mn : Int)) S v = some (J ((2 * len + 2 : Nat) : Int)) := by
  obtain ⟨k0, ⟨c1, c3⟩, g0, kr, hb, hbt, ht⟩ := hO
  have el : nI (alen S r) = J (len : Int) := by rw [alen_of kr]; rfl
  have e2 : J 2 <<< (J 0 &&& 31) = J 2 := shl_0 _
  have en : J (len : Int) + (J (len : Int) + J 2) = J ((2 * len + 2 : Nat) : Int) := by
    rw [← J_add, ← J_add]
    congr 1
    omega
  unfold F_ab_newCapacity
  rw [grd_true _ k0, g0]
  simp only [Option.bind_some]
  rw [grd_true _ ⟨2, len, kr, by decide⟩, gi_rw, c1, el, shl_0, e2]
  simp only [lt_def]
  rw [← J_sub, ← J_add]
  unfold F_as_newLength
  rw [ma_maxJ (by omega) (by omega)]
  simp only [Option.bind_some]
  have em : maxZ ((mn : Int) - (len : Int)) ((len : Int) + 2) = (len : Int) + 2 := by
    unfold maxZ
    split <;> omega
  rw [em, J_add (len : Int) 2, en, if_pos ((J_lt (by decide) (by omega)).mpr (by omega)), if_neg (fun w => by have := (J_lt (by decide) (by omega)).mp w; omega)]
  simp only [Option.bind_some]
  rw [if_neg (fun w => by have := (J_eq (by omega) (by decide)).mp w; omega), shr_0]
theorem ab_ensure {mn : Nat} (hw : wfS S) (hO : OC S v b l O r len) (h2 : mn ≤ 142) (h3 : mn ≤ 2 * len + 2) : ∃ S' v' r' len', F_ab_ensureCapacityInternal b (J (mn : Int)) S v = some (S', v') ∧ OC S' v' b l O r' len' ∧ mn ≤ len' ∧ exP b r len S v S' v' r' len' ∧ rw v' b = rw v b := by
  obtain ⟨k0, ⟨c1, c3⟩, g0, kr, hb, hbt, ht⟩ := id hO
  have hrb := OC_ne hO
  have el : nI (alen S r) = J (len : Int) := by rw [alen_of kr]; rfl
  by_cases z : mn ≤ len
  · refine ⟨S, v, r, len, ?_, hO, z, exP_refl, rfl⟩
    unfold F_ab_ensureCapacityInternal
    rw [grd_true _ k0, g0]
    simp only [Option.bind_some]
    rw [grd_true _ ⟨2, len, kr, by decide⟩, gi_rw, c1, el, shr_0]
    simp only [lt_def]
    rw [← J_sub, if_neg (fun w => by have := (J_lt (by decide) (by omega)).mp w; omega)]
  · have nk := hw (nxt S) (Nat.le_refl _)
    have br := kin_lt hw kr
    have bb := kin_lt hw k0
    obtain ⟨q, hq⟩ : ∃ q, q = 2 * len + 2 := ⟨_, rfl⟩
    have tq : Int32.toNatClampNeg (J (q : Int)) = q := clampT (J_toInt (by omega) (by omega))
    have tl : Int32.toNatClampNeg (J (len : Int)) = len := clampT (J_toInt (by omega) (by omega))
    have t0 : Int32.toNatClampNeg (J 0) = 0 := by decide
    have nc := ab_newCap hO (by omega) h2 h3
    rw [← hq] at nc
    -- the new array
    obtain ⟨S1, e1⟩ : ∃ S1, S1 = grow S (2, q) q := ⟨_, rfl⟩
    obtain ⟨v1, ev1⟩ : ∃ v1, v1 = zero v (nxt S) := ⟨_, rfl⟩
    have kr1 : kin S1 r = some (2, len) := by rw [e1, kin_grow, if_neg (by omega)]; exact kr
    have kn1 : kin S1 (nxt S) = some (2, q) := by rw [e1, kin_grow, if_pos rfl]
    have el1 : nI (alen S1 r) = J (len : Int) := by rw [alen_of kr1]; rfl
    have rr1 : ∀ x, x ≠ nxt S → rw v1 x = rw v x := fun x hx => by rw [ev1, rw_zero hx]
    have rn1 : ∀ k, rw v1 (nxt S) k = 0 := fun k => by
      rw [ev1]
      show (if nxt S = nxt S then (0 : Int32) else _) = 0
      rw [if_pos rfl]
    obtain ⟨v2, ev2⟩ : ∃ v2, v2 = cpy v1 r 0 (nxt S) 0 len := ⟨_, rfl⟩
    have rr2 : ∀ x, x ≠ nxt S → rw v2 x = rw v x := fun x hx => by
      rw [ev2, ← rr1 x hx]
      funext k
      show (if x = nxt S ∧ 0 ≤ k ∧ k < 0 + len then v1.1 r (0 + (k - 0)) else v1.1 x k) = v1.1 x k
      rw [if_neg (fun h => hx h.1)]
    have rn2 : ∀ k, rw v2 (nxt S) k = if k < len then rw v r k else 0 := fun k => by
      rw [ev2]
      show (if nxt S = nxt S ∧ 0 ≤ k ∧ k < 0 + len then v1.1 r (0 + (k - 0)) else v1.1 (nxt S) k) = _
      by_cases y : k < len
      · rw [if_pos ⟨rfl, by omega, by omega⟩, if_pos y, Nat.zero_add, Nat.sub_zero]
        exact congrFun (rr1 r (by omega)) k
      · rw [if_neg (fun h => y (by omega)), if_neg y]
        exact rn1 k
    have cop : F_ar_copyOf r (J (q : Int)) S v = some (some (nxt S), S1, v2) := by
      unfold F_ar_copyOf
      rw [grd_true _ ⟨2, len, kr, by decide⟩, el, if_neg (fun w => by have := (J_eq (by omega) (by omega)).mp w; omega), grd_true _ (fun w => by have := (J_lt (x := (q : Int)) (y := 0) (by omega) (by decide)).mp w; omega), tq, grd_true _ (by omega), grd_true _ nk]
      simp only [lt3_def]
      rw [← e1, ← ev1, grd_true _ ⟨2, len, kr1, by decide⟩, el1, ma_minJ (by omega) (by omega)]
      simp only [Option.bind_some]
      have em : minZ (len : Int) (q : Int) = (len : Int) := by
        unfold minZ
        split <;> omega
      rw [em, tl, t0, grd_true _ (by rw [alen_of kr1]; exact kr1), grd_true _ ⟨⟨by decide, by decide, fun w => by have := (J_lt (x := (len : Int)) (y := 0) (by omega) (by decide)).mp w; omega⟩, by rw [alen_of kr1]; omega, by rw [alen_of kn1]; omega, fun i hi => by
        have hy := hbt (0 + i)
        obtain ⟨y, hy⟩ := hy
        rw [gi_rw, rr1 r (by omega), hy]
        exact pk_fb y⟩]
      simp only [lt_def]
      rw [← ev2]
    obtain ⟨S2, e2⟩ : ∃ S2, S2 = sr S1 b 0 (some (nxt S)) := ⟨_, rfl⟩
    have hk2 : ∀ x, kin S2 x = kin S1 x := fun x => by rw [e2]; rfl
    refine ⟨S2, v2, nxt S, q, ?_, ⟨?_, ⟨by rw [rr2 b (by omega)]; exact c1, by rw [rr2 b (by omega)]; exact c3⟩, ?_, by rw [hk2]; exact kn1, by omega, fun i => ?_, fun i hi => ?_⟩, by omega, ⟨fun x hx => ?_, fun x hx hb hr => rr2 x (by omega), fun x hx j hj => ?_, fun x hx => ?_, ?_, ?_, ?_, ?_, by omega, Or.inr (Nat.le_refl _), fun h x hx => ?_⟩, rr2 b (by omega)⟩
    · unfold F_ab_ensureCapacityInternal
      rw [grd_true _ k0, g0]
      simp only [Option.bind_some]
      rw [grd_true _ ⟨2, len, kr, by decide⟩, gi_rw, c1, el, shr_0]
      simp only [lt_def]
      rw [← J_sub, if_pos ((J_lt (by decide) (by omega)).mpr (by omega)), nc]
      simp only [Option.bind_some]
      rw [shl_0, cop]
      simp only [Option.bind_some, oc2]
      rw [← e2]
    · rw [hk2, e1, kin_grow, if_neg (by omega)]; exact k0
    · rw [e2, gr_sr, if_pos ⟨rfl, rfl⟩]
    · rw [rn2]
      split
      · exact hbt i
      · exact ⟨0, by decide⟩
    · rw [rn2, if_pos (by omega)]
      exact ht i hi
    · rw [ev2, ev1]
      funext k
      show (if x = nxt S then (0 : Int64) else v.2 x k) = v.2 x k
      rw [if_neg (by omega)]
    · rw [e2, gr_sr, if_neg (by omega), e1, gr_grow, if_neg (by omega)]
    · rw [hk2, e1, kin_grow, if_neg (by omega)]
    · rw [e2, e1]; rfl
    · rw [e2, e1]; rfl
    · have : cn S2 = cn S + 1 := by rw [e2, e1]; rfl
      omega
    · have : cz S2 = cz S + q := by rw [e2, e1]; rfl
      omega
    · have en : nxt S2 = nxt S + 1 := by rw [e2, e1]; rfl
      rw [hk2, e1, kin_grow, if_neg (by omega)]
      exact h x (by omega)
theorem ab_latin (hO : OC S v b l O r len) : F_ab_isLatin1 b S v = some (J 1) := by
  unfold F_ab_isLatin1
  rw [grd_true _ hO.1, gi_rw, hO.2.1.1, if_pos rfl]
theorem chr_7 : ∀ c : Fin 128, (J ((c.val : Nat) : Int)) &&& J 255 = J ((c.val : Nat) : Int) := by decide +kernel
theorem chr_8 {c : Nat} (hc : c < 128) : Int8.toInt32 (Int32.toInt8 (J (c : Int))) &&& J 255 = J (c : Int) := by
  rw [j255]
  rw [bp_b]
  exact chr_7 ⟨c, hc⟩
/-- a letter more -/
theorem sb_char {c : Nat} (hw : wfS S) (hO : OC S v b l O r len) (hc : c < 128) (hl : l + 1 ≤ 142) :
    ∃ S' v' r' len', F_sb_append3 b (J (c : Int)) S v = some (some b, S', v') ∧ OC S' v' b (l + 1) (put1 O l c) r' len' ∧ exP b r len S v S' v' r' len' := by
  obtain ⟨k0, ⟨c1, c3⟩, g0, kr, hb, hbt, ht⟩ := id hO
  obtain ⟨S1, v1, r1, len1, e1, O1, h1, X1, eb⟩ := ab_ensure (mn := l + 1) hw hO hl (by omega)
  obtain ⟨q0, ⟨d1, d3⟩, f0, qr, pb, pbt, pt'⟩ := id O1
  have hrb := OC_ne O1
  have tl : (J (l : Int)).toInt = (l : Int) := J_toInt (by omega) (by omega)
  have bc : Int8.toInt32 (Int32.toInt8 (Int8.toInt32 (Int32.toInt8 (J (c : Int))))) &&& J 255 = J (c : Int) := by
    rw [by_8]
    exact chr_7 ⟨c, hc⟩
  refine ⟨S1, wr (wr v1 b (up (rw v1 b) 3 (J ((l + 1 : Nat) : Int)))) r1 (up (rw v1 r1) l (Int8.toInt32 (Int32.toInt8 (Int8.toInt32 (Int32.toInt8 (J (c : Int))))))), r1, len1, ?_, ⟨q0, ⟨?_, ?_⟩, f0, qr, by omega, ?_, fun i hi => ?_⟩, exP_tr X1 (exP_tr (exP_wr (Or.inl rfl)) (exP_wr (Or.inr rfl)))⟩
  · unfold F_sb_append3 F_ab_append3
    rw [grd_true _ k0, grd_true _ k0, gi_rw, c3, J_s, e1]
    simp only [Option.bind_some]
    rw [ab_latin O1]
    simp only [Option.bind_some]
    rw [if_neg (show ¬ J 1 = J 0 by decide)]
    unfold F_l1_canEncode
    rw [if_neg (fun w => by have := (J_lt (by decide) (by omega)).mp w; omega)]
    simp only [Option.bind_some]
    rw [if_neg (show ¬ J 1 = J 0 by decide), f0]
    simp only [Option.bind_some]
    rw [grd_true _ (by rw [alen_of qr]; exact qr), gi_rw, d3, grd_true _ (vin_of qr tl (by omega)), clampT tl]
    simp only [lt_def, si_wr, Option.bind_some, oc2]
    rw [rw_wr_ne hrb, J_s]
  · rw [rw_wr_ne hrb.symm, rw_wr, up_ne (by decide)]; exact d1
  · rw [rw_wr_ne hrb.symm, rw_wr, up_same]
  · rw [rw_wr]
    exact bts_up pbt
  · rw [rw_wr]
    unfold put1
    by_cases z : i = l
    · rw [z, up_same, if_pos rfl]
      exact bc
    · rw [up_ne z, if_neg z]
      exact pt' i (by omega)
end BUILDER
