/-! The model's measurements. -/
section MEASURES
def bgN (f : Nat → Int32) (T e : Int) : Nat → Int32 := up (up (up f 11 (J T)) 13 (J 0)) 14 (J e)
def eqX (f f' : Nat → Int32) : Prop := ∀ k, k < 11 ∨ 15 < k → f' k = f k
theorem eqX_refl (f : Nat → Int32) : eqX f f := fun _ _ => rfl
theorem eqX_tr {f g h : Nat → Int32} (a : eqX f g) (b : eqX g h) : eqX f h := fun k hk => (b k hk).trans (a k hk)
theorem eqX_bgN (f : Nat → Int32) (T e : Int) : eqX f (bgN f T e) := fun k hk => by unfold bgN; rw [up_ne (by omega), up_ne (by omega), up_ne (by omega)]
theorem eqX_fdC (f : Nat → Int32) (q T e : Int) : eqX f (fdC f q T e) := fun k hk => by unfold fdC; rw [up_ne (by omega), up_ne (by omega), up_ne (by omega)]
theorem up_comm {f : Nat → Int32} {i j : Nat} {x y : Int32} (h : i ≠ j) : up (up f i x) j y = up (up f j y) i x := by
  funext k
  unfold up
  by_cases h1 : k = j
  · subst h1; rw [if_pos rfl, if_neg (fun q => h q.symm), if_pos rfl]
  · rw [if_neg h1]
    by_cases h2 : k = i
    · rw [if_pos h2, if_pos h2]
    · rw [if_neg h2, if_neg h2, if_neg h1]
theorem fdC_fdC {f : Nat → Int32} {q T e q' T' e' : Int} : fdC (fdC f q T e) q' T' e' = fdC f q' T' e' := by
  unfold fdC
  funext k
  unfold up
  split
  · rfl
  · rename_i h15
    split
    · rfl
    · rename_i h12
      split
      · rfl
      · rfl
theorem fdC_13 {f : Nat → Int32} {q T e : Int} : fdC f q T e 13 = J q := rfl
def gG (t p : Nat → Int) (k : Nat) (c g : Nat → Int) : Nat → Int := sgK t p (3 * (tkN k c) 4) g
theorem mdI_tkN {X : Nat → Int} {T : Int} {c g : Nat → Int} (hI : mdI X T c g) : ∀ k : Nat, (tkN k c) 4 ≤ 2000000 → mdI X ((tkN k c) 4) (tkN (k + 1) c) g
  | 0, h => mdI_ck hI (Int.le_trans h (by decide))
  | k + 1, h => by
    have := tkN_mono hI.2.1 (show k ≤ k + 1 by omega)
    exact mdI_ck (mdI_tkN hI k (by omega)) (Int.le_trans h (by decide))
theorem mdI_gG {X : Nat → Int} {T : Int} {c g : Nat → Int} (hI : mdI X T c g) {k : Nat} (h : (tkN k c) 4 ≤ 2000000) : mdI X ((tkN k c) 4) (tkN (k + 1) c) (gG (mt X) (mp X) k c g) :=
  (mdI_sgK (mdI_tkN hI k h) (by omega)).1
theorem gG_next {X : Nat → Int} {T : Int} {c g : Nat → Int} (hI : mdI X T c g) {k : Nat} (h : (tkN (k + 1) c) 4 ≤ 2000000) : sgK (mt X) (mp X) (3 * (tkN (k + 1) c) 4) (gG (mt X) (mp X) k c g) = gG (mt X) (mp X) (k + 1) c g := by
  obtain ⟨⟨u, hJ, q0, q1⟩, hc, -⟩ := hI
  have := tkN_mono hc (show k ≤ k + 1 by omega)
  exact sgK_K hJ q0 q1 (by omega) (by omega)
theorem gG_3 {X : Nat → Int} {T : Int} {c g : Nat → Int} (hI : mdI X T c g) {k : Nat} (h : (tkN k c) 4 ≤ 2000000) : 0 ≤ gG (mt X) (mp X) k c g 3 ∧ gG (mt X) (mp X) k c g 3 ≤ gG (mt X) (mp X) k c g 2 ∧ gG (mt X) (mp X) k c g 2 ≤ 2100000 := by
  obtain ⟨u, hJ, q0, q1⟩ := (mdI_gG hI h).1
  have := hJ.1.2.2.2.1
  omega
-- by period
theorem mdI_ckK {X : Nat → Int} {T T' : Int} {c g : Nat → Int} (hI : mdI X T c g) (hT : T' ≤ 2100000) : mdI X T (ckK T' c) g ∧ c 5 ≤ ckK T' c 5 := by
  obtain ⟨h0, h1, h2, hX, hT0, h6, h7⟩ := hI
  obtain ⟨⟨m1, m2, m3, m4⟩, k1, k2⟩ := ckK_M (T := T') h1 (fun d => d 4 ≤ 2101000 ∧ 9 * d 5 ≤ d 4 ∧ (0 ≤ d 6 ∧ d 6 ≤ 2100000) ∧ c 5 ≤ d 5) ⟨h2.1, h2.2, h6, Int.le_refl _⟩ (fun d hd hM hd4 => by
    obtain ⟨m1, m2, m3, m4⟩ := hM
    have k := tkZ_inv hd
    have k0 := hd.2.2.2.2.1
    refine ⟨by omega, ?_, ⟨k0, by show d 4 ≤ _; omega⟩, ?_⟩
    · show 9 * (d 5 + 1) ≤ _; omega
    · show c 5 ≤ d 5 + 1; omega)
  exact ⟨⟨h0, k1, ⟨m1, m2⟩, hX, hT0, m3, h7⟩, m4⟩
theorem mdI_O {X : Nat → Int} {T : Int} {c g : Nat → Int} (hI : mdI X T c g) {i : Nat} (h : oN (mt X) (mp X) i g ≠ -1) : mdI X (oN (mt X) (mp X) i g) (ckK (oN (mt X) (mp X) i g) c) (sgK (mt X) (mp X) (3 * oN (mt X) (mp X) i g + 2) g) := by
  obtain ⟨⟨u, hJ, q0, q1⟩, -⟩ := id hI
  have hb := (oN_at hJ q0 q1 h).2.2.2.2
  exact mdI_end (mdI_sgK (mdI_ckK hI (by omega)).1 (by omega)).1 (by omega)
theorem O_next {X : Nat → Int} {T : Int} {c g : Nat → Int} (hI : mdI X T c g) {i : Nat} (h : oN (mt X) (mp X) (i + 1) g ≠ -1) : ckK (oN (mt X) (mp X) (i + 1) g) (ckK (oN (mt X) (mp X) i g) c) = ckK (oN (mt X) (mp X) (i + 1) g) c ∧ sgK (mt X) (mp X) (3 * oN (mt X) (mp X) (i + 1) g + 2) (sgK (mt X) (mp X) (3 * oN (mt X) (mp X) i g + 2) g) = sgK (mt X) (mp X) (3 * oN (mt X) (mp X) (i + 1) g + 2) g := by
  obtain ⟨⟨u, hJ, q0, q1⟩, hc, -⟩ := id hI
  obtain ⟨h1, h2⟩ := oN_lt hJ q0 q1 h
  have hb := (oN_at hJ q0 q1 h).2.2.2.2
  exact ⟨ckK_K hc (by omega), sgK_K hJ q0 q1 (by omega) (by omega)⟩
/-- clock edges since the first output -/
def cO (t p : Nat → Int) (i : Nat) (c g : Nat → Int) : Int := ckK (oN t p i g) c 5 - ckK (oN t p 0 g) c 5
end MEASURES
