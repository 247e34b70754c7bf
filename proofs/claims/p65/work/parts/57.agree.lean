/-! Rows that agree at the numbers that matter. -/
section AGREE
theorem J_add (a b : Int) : J (a + b) = J a + J b := Int32.ofInt_add a b
theorem J_sub (a b : Int) : J (a - b) = J a - J b := Int32.ofInt_sub a b
theorem J_mul (a b : Int) : J (a * b) = J a * J b := Int32.ofInt_mul a b
theorem J_neg (a : Int) : J (-a) = -J a := Int32.ofInt_neg a
theorem J_lt {x y : Int} (hx : -2147483648 ≤ x ∧ x < 2147483648) (hy : -2147483648 ≤ y ∧ y < 2147483648) : J x < J y ↔ x < y := by
  rw [i_lt, J_toInt hx.1 hx.2, J_toInt hy.1 hy.2]
/-- a row f holds the numbers z up to n -/
def ag (n : Nat) (f : Nat → Int32) (z : Nat → Int) : Prop := ∀ k, k < n → f k = J (z k)
theorem ag_iz (n : Nat) (z : Nat → Int) : ag n (iz z) z := fun _ _ => rfl
theorem ag_up {n : Nat} {f : Nat → Int32} {z : Nat → Int} {k : Nat} {x : Int} (h : ag n f z) : ag n (up f k (J x)) (fun j => if j = k then x else z j) := by
  intro j hj
  show (if j = k then J x else f j) = J (if j = k then x else z j)
  by_cases q : j = k
  · rw [if_pos q, if_pos q]
  · rw [if_neg q, if_neg q]; exact h j hj
/-- z at the numbers up to n, w behind them -/
def ov (n : Nat) (z w : Nat → Int) : Nat → Int := fun k => if k < n then z k else w k
theorem ov_lt {n : Nat} {z w : Nat → Int} {k : Nat} (h : k < n) : ov n z w k = z k := if_pos h
theorem ov_of {n : Nat} {f : Nat → Int32} {z : Nat → Int} (h : ag n f z) (hz : ∀ k, k < n → -2147483648 ≤ z k ∧ z k < 2147483648) : f = iz (ov n z (zi f)) ∧ rB (ov n z (zi f)) := by
  constructor
  · funext k
    unfold iz ov
    by_cases q : k < n
    · rw [if_pos q]; exact h k q
    · rw [if_neg q]; exact (J_of _).symm
  · intro k
    unfold ov
    by_cases q : k < n
    · rw [if_pos q]; exact hz k q
    · rw [if_neg q]; exact i_rng _
theorem ag_ov {n : Nat} {z w : Nat → Int} : ag n (iz (ov n z w)) z := fun k hk => congrArg J (ov_lt hk)
-- the clock's ways
theorem tkZ_ov (c w : Nat → Int) : tkZ (ov 7 c w) = ov 7 (tkZ c) w := by
  have hD : tkD (ov 7 c w) = tkD c := rfl
  funext k
  match k with
  | 0 => rfl
  | 1 => rfl
  | 2 => rfl
  | 3 => rfl
  | 4 => rfl
  | 5 => rfl
  | 6 => rfl
  | j + 7 =>
    show ov 7 c w (j + 7) = (if j + 7 < 7 then _ else _)
    unfold ov
    rw [if_neg (by omega), if_neg (by omega)]
theorem tkN_ov (c w : Nat → Int) : ∀ n : Nat, tkN n (ov 7 c w) = ov 7 (tkN n c) w
  | 0 => rfl
  | n + 1 => by
    show tkZ (tkN n (ov 7 c w)) = _
    rw [tkN_ov c w n, tkZ_ov]
    rfl
theorem ckF_ov (w : Nat → Int) {T : Int} : ∀ (n : Nat) (c : Nat → Int), ckF n T (ov 7 c w) = ov 7 (ckF n T c) w
  | 0, c => rfl
  | n + 1, c => by
    show (if ov 7 c w 4 ≤ T then ckF n T (tkZ (ov 7 c w)) else ov 7 c w) = ov 7 (if c 4 ≤ T then _ else _) w
    rw [show ov 7 c w 4 = c 4 from rfl, tkZ_ov, ckF_ov w n]
    split <;> rfl
theorem ckK_ov (c w : Nat → Int) {T : Int} : ckK T (ov 7 c w) = ov 7 (ckK T c) w := ckF_ov w _ c
-- the signal's ways
theorem egZ_ov (g w : Nat → Int) : egZ (ov 10 g w) = ov 10 (egZ g) w := by
  funext k
  match k with
  | 0 => rfl
  | 1 => rfl
  | 2 => rfl
  | 3 => rfl
  | 4 => rfl
  | 5 => rfl
  | 6 => rfl
  | 7 => rfl
  | 8 => rfl
  | 9 => rfl
  | j + 10 =>
    show ov 10 g w (j + 10) = (if j + 10 < 10 then _ else _)
    unfold ov
    rw [if_neg (by omega), if_neg (by omega)]
theorem egN_ov (g w : Nat → Int) : ∀ n : Nat, egN n (ov 10 g w) = ov 10 (egN n g) w
  | 0 => rfl
  | n + 1 => by
    show egZ (egN n (ov 10 g w)) = _
    rw [egN_ov g w n, egZ_ov]
    rfl
theorem edE_ov (g w : Nat → Int) {T : Int} : edE T (ov 10 g w) = ov 10 (edE T g) w := egN_ov g w _
theorem smZ_ov (t p g w : Nat → Int) : smZ t p (ov 10 g w) = ov 10 (smZ t p g) w := by
  funext k
  match k with
  | 0 => rfl
  | 1 => rfl
  | 2 => rfl
  | 3 => rfl
  | 4 => rfl
  | 5 => rfl
  | 6 => rfl
  | 7 => rfl
  | 8 => rfl
  | 9 => rfl
  | j + 10 =>
    show ov 10 g w (j + 10) = (if j + 10 < 10 then _ else _)
    unfold ov
    rw [if_neg (by omega), if_neg (by omega)]
theorem psZ_ov (t p w : Nat → Int) {A B : Int} : ∀ (n : Nat) (g : Nat → Int), psZ t p A B n (ov 10 g w) = ov 10 (psZ t p A B n g) w
  | 0, g => edE_ov g w
  | n + 1, g => by
    show (if g 9 < g 8 ∧ t (g 9).toNat ≤ A then psZ t p A B n (smZ t p (edE (t (g 9).toNat - 1) (ov 10 g w))) else edE B (ov 10 g w)) = ov 10 (if g 9 < g 8 ∧ t (g 9).toNat ≤ A then _ else _) w
    rw [edE_ov, edE_ov, smZ_ov, psZ_ov t p w n]
    split <;> rfl
theorem sgK_ov (t p g w : Nat → Int) {K : Int} : sgK t p K (ov 10 g w) = ov 10 (sgK t p K g) w := psZ_ov t p w _ g
theorem ev1_ov (t p g w : Nat → Int) : ev1 t p (ov 10 g w) = ov 10 (ev1 t p g) w := by
  unfold ev1
  by_cases h : evS t g
  · rw [if_pos h, if_pos (show evS t (ov 10 g w) from h), smZ_ov]
  · rw [if_neg h, if_neg (show ¬ evS t (ov 10 g w) from h), egZ_ov]
theorem eTf_ov (t p w : Nat → Int) : ∀ (n : Nat) (k : Int) (g : Nat → Int), eTf t p n k (ov 10 g w) = eTf t p n k g
  | 0, _, _ => rfl
  | n + 1, k, g => by
    show (if 6000002 < keS t g then -1 else if evS t g then eTf t p n k (ev1 t p (ov 10 g w)) else if k ≤ 1 then g 1 else eTf t p n (k - 1) (ev1 t p (ov 10 g w))) = (if _ then _ else _)
    rw [ev1_ov, eTf_ov t p w n, eTf_ov t p w n]
theorem eT_ov (t p g w : Nat → Int) {k : Int} : eT t p k (ov 10 g w) = eT t p k g := eTf_ov t p w _ k g
theorem sgJ_ov {t p g w : Nat → Int} {u : Int} (h : sgJ u t p g) : sgJ u t p (ov 10 g w) := h
end AGREE
