/-! The law's text as the class's reader sees it: token by token. -/
section LAWTOKS
variable {n : Nat} {L pre sp wd rest : List Int} {κ y : Int} {z z1 : Nat → Int} {f5 f6 f7 : Int}
theorem fz_at {P : Nat → Bool} {m : Nat} : ∀ (k i : Nat), i ≤ m → m ≤ i + k → (∀ j, i ≤ j → j < m → P j = true) → (m < i + k → P m = false) → fz P k i = m
  | 0, i, h1, h2, _, _ => by
    rw [fz_0]; omega
  | k + 1, i, h1, h2, h3, h4 => by
    rw [fz_s]
    by_cases q : i = m
    · subst q
      rw [h4 (by omega)]
      rfl
    · rw [h3 i (Nat.le_refl _) (by omega), if_pos rfl]
      exact fz_at k (i + 1) (by omega) (by omega) (fun j a b => h3 j (by omega) b) (fun a => h4 (by omega))
theorem kd_ns (h : kdZ y = κ) (hκ : κ ≠ 5) : spP (fun _ => y) 0 = false := by
  refine decide_eq_false (fun q => ?_)
  rcases q with q | q
  · have q' : y = 32 := q
    subst q'
    exact hκ h.symm
  · have q' : y = 10 := q
    subst q'
    exact hκ h.symm
/-- where the next token begins -/
theorem st_at (hsp : ∀ x, x ∈ sp → x = 32) (hw : wd ≠ []) (hk : kdZ (asL wd 0) = κ) (hκ : κ ≠ 5) : stZ (asL (pre ++ (sp ++ (wd ++ rest)))) (pre ++ (sp ++ (wd ++ rest))).length pre.length = pre.length + sp.length ∧ tkK (asL (pre ++ (sp ++ (wd ++ rest)))) (pre ++ (sp ++ (wd ++ rest))).length pre.length = κ ∧ (pre ++ (sp ++ (wd ++ rest))).length = pre.length + sp.length + wd.length + rest.length ∧ (∀ i, i < wd.length → asL (pre ++ (sp ++ (wd ++ rest))) (pre.length + sp.length + i) = asL wd i) ∧ ∀ i, asL (pre ++ (sp ++ (wd ++ rest))) (pre.length + sp.length + wd.length + i) = asL rest i := by
  obtain ⟨L, eL⟩ : ∃ L, L = pre ++ (sp ++ (wd ++ rest)) := ⟨_, rfl⟩
  rw [← eL]
  have hl : L.length = pre.length + sp.length + wd.length + rest.length := by
    rw [eL]
    simp only [List.length_append]
    omega
  have hw0 : 0 < wd.length := List.length_pos_iff.mpr hw
  have a1 : ∀ i, i < wd.length → asL L (pre.length + sp.length + i) = asL wd i := fun i hi => by
    rw [eL, Nat.add_assoc, asL_r, asL_r, asL_l hi]
  have a2 : ∀ i, asL L (pre.length + sp.length + wd.length + i) = asL rest i := fun i => by
    rw [eL, Nat.add_assoc, Nat.add_assoc, asL_r, asL_r, asL_r]
  have a0 : ∀ i, i < sp.length → asL L (pre.length + i) = 32 := fun i hi => by
    rw [eL, asL_r, asL_l hi]
    exact hsp _ (asL_m hi)
  have h0 := a1 0 hw0
  rw [Nat.add_zero] at h0
  have e : stZ (asL L) L.length pre.length = pre.length + sp.length := by
    refine fz_at _ _ (by omega) (by omega) (fun j h1 h2 => ?_) (fun _ => ?_)
    · have := a0 (j - pre.length) (by omega)
      rw [show pre.length + (j - pre.length) = j by omega] at this
      exact spP_t.mpr (Or.inl this)
    · have := kd_ns hk hκ
      unfold spP at this ⊢
      rw [h0]
      exact this
  refine ⟨e, ?_, hl, a1, a2⟩
  unfold tkK
  rw [e]
  unfold btZ
  rw [if_pos (by omega), h0, hk]
/-- a word or a number -/
theorem en_at (hsp : ∀ x, x ∈ sp → x = 32) (hw : wd ≠ []) (hk : ∀ x, x ∈ wd → kdZ x = κ) (hκ : κ = 1 ∨ κ = 2) (hr : rest = [] ∨ kdZ (asL rest 0) ≠ κ) : enZ (asL (pre ++ (sp ++ (wd ++ rest)))) (pre ++ (sp ++ (wd ++ rest))).length pre.length = pre.length + sp.length + wd.length := by
  have hw0 : 0 < wd.length := List.length_pos_iff.mpr hw
  obtain ⟨e1, e2, e3, e4, e5⟩ := st_at (pre := pre) (rest := rest) (κ := κ) hsp hw (hk _ (asL_m hw0)) (by omega)
  unfold enZ
  rw [e2, if_neg (by omega), if_pos hκ, e1]
  refine fz_at _ _ (by omega) (by omega) (fun j h1 h2 => ?_) (fun h => ?_)
  · have := e4 (j - (pre.length + sp.length)) (by omega)
    rw [show pre.length + sp.length + (j - (pre.length + sp.length)) = j by omega] at this
    refine knP_t.mpr ?_
    rw [this]
    exact hk _ (asL_m (by omega))
  · have := e5 0
    rw [Nat.add_zero] at this
    refine decide_eq_false (fun q => ?_)
    rw [this] at q
    rcases hr with r | r
    · have : rest.length = 0 := by rw [r]; rfl
      omega
    · exact r q
/-- where the reader stands, and what is left -/
def AT (L : List Int) (z : Nat → Int) (rest : List Int) : Prop := ∃ pre, L = pre ++ rest ∧ z 10 = (pre.length : Int)
/-- it has gone on from there -/
def NX (L : List Int) (z : Nat → Int) (rest : List Int) (f5 f6 f7 : Int) : Prop := ∃ z1, (∀ k, k ≠ 12 → z k = adZ (asL L) L.length z1 k) ∧ z1 2 = 0 ∧ AT L z1 rest ∧ z1 5 = f5 ∧ z1 6 = f6 ∧ z1 7 = f7
def tokW (L : List Int) (z : Nat → Int) (wd : List Int) : Prop := z 8 = 1 ∧ z 10 - z 9 = (wd.length : Int) ∧ ∀ i, i < wd.length → asL L ((z 9).toNat + i) = asL wd i
def flB (f5 f6 f7 : Int) : Prop := (f5 = 0 ∨ f5 = 1) ∧ (f6 = 0 ∨ f6 = 1) ∧ (f7 = 0 ∨ f7 = 1)
theorem nx_w (h : NX L z (sp ++ (wd ++ rest)) f5 f6 f7) (hf : flB f5 f6 f7) (hsp : ∀ x, x ∈ sp → x = 32) (hw : wd ≠ []) (hk : ∀ x, x ∈ wd → kdZ x = 1) (hr : rest = [] ∨ kdZ (asL rest 0) ≠ 1) : zI L.length z ∧ tokW L z wd ∧ AT L z rest ∧ z 5 = f5 ∧ z 6 = f6 ∧ z 7 = f7 := by
  obtain ⟨z1, hz, h2, ⟨pre, eL, h10⟩, h5, h6, h7⟩ := h
  have hw0 : 0 < wd.length := List.length_pos_iff.mpr hw
  obtain ⟨e1, e2, e3, e4, e5⟩ := st_at (pre := pre) (rest := rest) (κ := 1) hsp hw (hk _ (asL_m hw0)) (by decide)
  have e6 := en_at (pre := pre) (rest := rest) hsp hw hk (Or.inl rfl) hr
  rw [← eL] at e1 e2 e3 e4 e5 e6
  have t10 : (z1 10).toNat = pre.length := by omega
  have z8 : z 8 = 1 := by
    rw [hz 8 (by decide)]
    show (if tkK _ _ (z1 10).toNat = 2 ∧ _ then (5 : Int) else tkK _ _ (z1 10).toNat) = 1
    rw [t10, e2]
    rfl
  have z9 : z 9 = ((pre.length + sp.length : Nat) : Int) := by
    rw [hz 9 (by decide)]
    show ((stZ _ _ (z1 10).toNat : Nat) : Int) = _
    rw [t10, e1]
  have z10 : z 10 = ((pre.length + sp.length + wd.length : Nat) : Int) := by
    rw [hz 10 (by decide)]
    show ((enZ _ _ (z1 10).toNat : Nat) : Int) = _
    rw [t10, e6]
  have z2 : z 2 = 0 := (hz 2 (by decide)).trans h2
  have z5 : z 5 = f5 := (hz 5 (by decide)).trans h5
  have z6 : z 6 = f6 := (hz 6 (by decide)).trans h6
  have z7 : z 7 = f7 := (hz 7 (by decide)).trans h7
  refine ⟨⟨z2, by omega, by omega, fun q => by omega, by rw [z5, z6, z7]; exact hf, fun _ => by omega⟩, ⟨z8, by omega, fun i hi => ?_⟩, ⟨pre ++ (sp ++ wd), by rw [eL]; simp only [List.append_assoc], by rw [z10]; simp only [List.length_append]; omega⟩, z5, z6, z7⟩
  rw [show (z 9).toNat = pre.length + sp.length by omega]
  exact e4 i hi
/-- a number's value, by its digits -/
theorem nm_at {B : Nat → Int} {s : Nat} {y : Nat} (hB : ∀ i, i < nd y → B (s + i) = ((48 + dg y (nd y - 1 - i) : Nat) : Int)) : ∀ k, k ≤ nd y → nmZ B s k = ((y / pt (nd y - k) : Nat) : Int) ∨ pt (nd y) ≤ y
  | 0, _ => by
    by_cases h : pt (nd y) ≤ y
    · exact Or.inr h
    · refine Or.inl ?_
      rw [Nat.sub_zero, Nat.div_eq_of_lt (by omega)]
      rfl
  | k + 1, hk => by
    rcases nm_at hB k (by omega) with e | e
    · refine Or.inl ?_
      show nmZ B s k * 10 + B (s + k) - 48 = _
      rw [e, hB k (by omega)]
      have p1 : pt (nd y - k) = 10 * pt (nd y - (k + 1)) := by
        rw [show nd y - k = (nd y - (k + 1)) + 1 by omega, pt_s]
      have dq : dg y (nd y - 1 - k) = y / pt (nd y - (k + 1)) % 10 := by
        rw [show nd y - 1 - k = nd y - (k + 1) by omega]
        rfl
      rw [dq, p1, Nat.mul_comm 10, ← Nat.div_div_eq_div_mul]
      omega
    · exact Or.inr e
theorem dig_ne {y : Nat} (h : y < 10000000000) : digL y ≠ [] := by
  intro e
  have := digL_len y
  rw [e] at this
  have := nd_1 h
  simp only [List.length_nil] at *
  omega
theorem dig_kd {y : Nat} : ∀ x, x ∈ digL y → kdZ x = 2 := by
  intro x hx
  unfold digL at hx
  obtain ⟨i, -, e⟩ := List.mem_map.mp hx
  have e' : x = ((48 + dg y (nd y - 1 - i) : Nat) : Int) := e.symm
  have d : dg y (nd y - 1 - i) < 10 := Nat.mod_lt _ (by decide)
  rw [e']
  unfold kdZ
  rw [if_neg (by omega), if_neg (by omega), if_pos (by omega)]
theorem nx_n {y : Nat} (h : NX L z (sp ++ (digL y ++ rest)) f5 f6 f7) (hf : flB f5 f6 f7) (hsp : ∀ x, x ∈ sp → x = 32) (hy : y < 1000000) (hr : rest = [] ∨ kdZ (asL rest 0) ≠ 2) : zI L.length z ∧ (z 8 = 2 ∧ z 11 = (y : Int)) ∧ AT L z rest ∧ z 5 = f5 ∧ z 6 = f6 ∧ z 7 = f7 := by
  obtain ⟨z1, hz, h2, ⟨pre, eL, h10⟩, h5, h6, h7⟩ := h
  have hw := dig_ne (y := y) (by omega)
  have hk := dig_kd (y := y)
  have hw0 : 0 < (digL y).length := List.length_pos_iff.mpr hw
  obtain ⟨e1, e2, e3, e4, e5⟩ := st_at (pre := pre) (rest := rest) (κ := 2) hsp hw (hk _ (asL_m hw0)) (by decide)
  have e6 := en_at (pre := pre) (rest := rest) hsp hw hk (Or.inr rfl) hr
  rw [← eL] at e1 e2 e3 e4 e5 e6
  have hn := digL_len y
  have n6 : nd y ≤ 6 := nd_le (d := 6) (show y < 1000000 by omega) (by decide)
  have t10 : (z1 10).toNat = pre.length := by omega
  have ee : enZ (asL L) L.length (z1 10).toNat - stZ (asL L) L.length (z1 10).toNat = nd y := by
    rw [t10, e1, e6, hn]
    omega
  have z8 : z 8 = 2 := by
    rw [hz 8 (by decide)]
    show (if tkK _ _ (z1 10).toNat = 2 ∧ 6 < enZ _ _ (z1 10).toNat - stZ _ _ (z1 10).toNat then (5 : Int) else tkK _ _ (z1 10).toNat) = 2
    rw [ee, if_neg (by omega), t10, e2]
  have z9 : z 9 = ((pre.length + sp.length : Nat) : Int) := by
    rw [hz 9 (by decide)]
    show ((stZ _ _ (z1 10).toNat : Nat) : Int) = _
    rw [t10, e1]
  have z10 : z 10 = ((pre.length + sp.length + (digL y).length : Nat) : Int) := by
    rw [hz 10 (by decide)]
    show ((enZ _ _ (z1 10).toNat : Nat) : Int) = _
    rw [t10, e6]
  have z11 : z 11 = (y : Int) := by
    rw [hz 11 (by decide)]
    show (if tkK _ _ (z1 10).toNat = 2 ∧ ¬ 6 < enZ _ _ (z1 10).toNat - stZ _ _ (z1 10).toNat then nmZ (asL L) (stZ _ _ (z1 10).toNat) (enZ _ _ (z1 10).toNat - stZ _ _ (z1 10).toNat) else z1 11) = _
    rw [ee, if_pos ⟨by rw [t10]; exact e2, by omega⟩, t10, e1]
    have hd := (nd_B (y := y) (by omega)).1.1
    rcases nm_at (B := asL L) (s := pre.length + sp.length) (y := y) (fun i hi => by rw [e4 i (by omega)]; exact digL_at hi) (nd y) (Nat.le_refl _) with q | q
    · rw [q, Nat.sub_self]
      show ((y / 1 : Nat) : Int) = _
      rw [Nat.div_one]
    · omega
  have z2 : z 2 = 0 := (hz 2 (by decide)).trans h2
  have z5 : z 5 = f5 := (hz 5 (by decide)).trans h5
  have z6 : z 6 = f6 := (hz 6 (by decide)).trans h6
  have z7 : z 7 = f7 := (hz 7 (by decide)).trans h7
  exact ⟨⟨z2, by omega, by omega, fun q => by omega, by rw [z5, z6, z7]; exact hf, fun _ => by omega⟩, ⟨z8, z11⟩, ⟨pre ++ (sp ++ digL y), by rw [eL]; simp only [List.append_assoc], by rw [z10]; simp only [List.length_append]; omega⟩, z5, z6, z7⟩
/-- one sign -/
theorem nx_c {c : Int} (h : NX L z (sp ++ ([c] ++ rest)) f5 f6 f7) (hf : flB f5 f6 f7) (hsp : ∀ x, x ∈ sp → x = 32) (hk : kdZ c = κ) (hκ : κ = 3 ∨ κ = 4) : zI L.length z ∧ z 8 = κ ∧ AT L z rest ∧ z 5 = f5 ∧ z 6 = f6 ∧ z 7 = f7 := by
  obtain ⟨z1, hz, h2, ⟨pre, eL, h10⟩, h5, h6, h7⟩ := h
  have hw : [c] ≠ [] := List.cons_ne_nil _ _
  obtain ⟨e1, e2, e3, e4, e5⟩ := st_at (pre := pre) (rest := rest) (κ := κ) (wd := [c]) hsp hw hk (by omega)
  rw [← eL] at e1 e2 e3 e4 e5
  have t10 : (z1 10).toNat = pre.length := by omega
  have e6 : enZ (asL L) L.length pre.length = pre.length + sp.length + 1 := by
    unfold enZ
    rw [e2, if_neg (by omega), if_neg (by omega), e1]
  have l1 : ([c] : List Int).length = 1 := rfl
  have z8 : z 8 = κ := by
    rw [hz 8 (by decide)]
    show (if tkK _ _ (z1 10).toNat = 2 ∧ _ then (5 : Int) else tkK _ _ (z1 10).toNat) = κ
    rw [t10, e2, if_neg (by omega)]
  have z9 : z 9 = ((pre.length + sp.length : Nat) : Int) := by
    rw [hz 9 (by decide)]
    show ((stZ _ _ (z1 10).toNat : Nat) : Int) = _
    rw [t10, e1]
  have z10 : z 10 = ((pre.length + sp.length + 1 : Nat) : Int) := by
    rw [hz 10 (by decide)]
    show ((enZ _ _ (z1 10).toNat : Nat) : Int) = _
    rw [t10, e6]
  have z2 : z 2 = 0 := (hz 2 (by decide)).trans h2
  have z5 : z 5 = f5 := (hz 5 (by decide)).trans h5
  have z6 : z 6 = f6 := (hz 6 (by decide)).trans h6
  have z7 : z 7 = f7 := (hz 7 (by decide)).trans h7
  exact ⟨⟨z2, by omega, by omega, fun q => by omega, by rw [z5, z6, z7]; exact hf, fun _ => by omega⟩, z8, ⟨pre ++ (sp ++ [c]), by rw [eL]; simp only [List.append_assoc], by rw [z10]; simp only [List.length_append, l1]; omega⟩, z5, z6, z7⟩
/-- the end -/
theorem nx_e (h : NX L z [] f5 f6 f7) (hf : flB f5 f6 f7) : zI L.length z ∧ z 8 = 0 := by
  obtain ⟨z1, hz, h2, ⟨pre, eL, h10⟩, h5, h6, h7⟩ := h
  rw [List.append_nil] at eL
  have t10 : (z1 10).toNat = L.length := by rw [eL]; omega
  have e1 : stZ (asL L) L.length L.length = L.length := by
    unfold stZ
    rw [Nat.sub_self, fz_0]
  have e2 : tkK (asL L) L.length L.length = 0 := by
    unfold tkK
    rw [e1]
    unfold btZ
    rw [if_neg (by omega)]
    decide
  have e6 : enZ (asL L) L.length L.length = L.length := by
    unfold enZ
    rw [if_pos e2, e1]
  have z8 : z 8 = 0 := by
    rw [hz 8 (by decide)]
    show (if tkK _ _ (z1 10).toNat = 2 ∧ _ then (5 : Int) else tkK _ _ (z1 10).toNat) = 0
    rw [t10, e2]
    rfl
  have z9 : z 9 = (L.length : Int) := by
    rw [hz 9 (by decide)]
    show ((stZ _ _ (z1 10).toNat : Nat) : Int) = _
    rw [t10, e1]
  have z10 : z 10 = (L.length : Int) := by
    rw [hz 10 (by decide)]
    show ((enZ _ _ (z1 10).toNat : Nat) : Int) = _
    rw [t10, e6]
  have z2 : z 2 = 0 := (hz 2 (by decide)).trans h2
  have z5 : z 5 = f5 := (hz 5 (by decide)).trans h5
  have z6 : z 6 = f6 := (hz 6 (by decide)).trans h6
  have z7 : z 7 = f7 := (hz 7 (by decide)).trans h7
  exact ⟨⟨z2, by omega, by omega, fun q => by omega, by rw [z5, z6, z7]; exact hf, fun q => absurd z8 q⟩, z8⟩
end LAWTOKS
