/-! Stretches of instructions. -/
theorem k_xi2 {K : lo → List Value → vl → Prop} {G : List Value → Prop} {f : Int32 → Int32 → Int32} {P : Int32 → Int32 → Option Prop} {L : lo} {st : List Value} {v : vl} (row : ∀ x y r, (∀ q, P x y = some q → q) → K L (.int (f x y) :: r) v → G (.int y :: .int x :: r))
    (hP : ∀ q, (xi2 f P L st v).2 = some q → q) (kk : K (xi2 f P L st v).1.1 (xi2 f P L st v).1.2.1 (xi2 f P L st v).1.2.2) : G st := by
  revert hP kk
  unfold xi2
  split
  · exact fun hP kk => row _ _ _ hP kk
  · exact fun hP _ => (hP False rfl).elim
theorem k_xi1 {K : lo → List Value → vl → Prop} {G : List Value → Prop} {f : Int32 → Value} {L : lo} {st : List Value} {v : vl} (row : ∀ x r, K L (f x :: r) v → G (.int x :: r))
    (hP : ∀ q, (xi1 f L st v).2 = some q → q) (kk : K (xi1 f L st v).1.1 (xi1 f L st v).1.2.1 (xi1 f L st v).1.2.2) : G st := by
  revert hP kk
  unfold xi1
  split
  · exact fun hP kk => row _ _ kk
  · exact fun hP _ => (hP False rfl).elim
theorem k_xl2 {K : lo → List Value → vl → Prop} {G : List Value → Prop} {f : Int64 → Int64 → Value} {P : Int64 → Int64 → Option Prop} {L : lo} {st : List Value} {v : vl} (row : ∀ x y r, (∀ q, P x y = some q → q) → K L (f x y :: r) v → G (.long y :: .long x :: r))
    (hP : ∀ q, (xl2 f P L st v).2 = some q → q) (kk : K (xl2 f P L st v).1.1 (xl2 f P L st v).1.2.1 (xl2 f P L st v).1.2.2) : G st := by
  revert hP kk
  unfold xl2
  split
  · exact fun hP kk => row _ _ _ hP kk
  · exact fun hP _ => (hP False rfl).elim
theorem k_xl1 {K : lo → List Value → vl → Prop} {G : List Value → Prop} {f : Int64 → Value} {L : lo} {st : List Value} {v : vl} (row : ∀ x r, K L (f x :: r) v → G (.long x :: r))
    (hP : ∀ q, (xl1 f L st v).2 = some q → q) (kk : K (xl1 f L st v).1.1 (xl1 f L st v).1.2.1 (xl1 f L st v).1.2.2) : G st := by
  revert hP kk
  unfold xl1
  split
  · exact fun hP kk => row _ _ kk
  · exact fun hP _ => (hP False rfl).elim
theorem k_xldi {K : lo → List Value → vl → Prop} {G : Prop} {k : Nat} {L : lo} {st : List Value} {v : vl} (row : ∀ x, L[k]? = some (some (.int x)) → K L (.int x :: st) v → G)
    (hP : ∀ q, (xldi k L st v).2 = some q → q) (kk : K (xldi k L st v).1.1 (xldi k L st v).1.2.1 (xldi k L st v).1.2.2) : G := by
  revert hP kk
  unfold xldi
  split
  · rename_i h; exact fun hP kk => row _ h kk
  · exact fun hP _ => (hP False rfl).elim
theorem k_xldl {K : lo → List Value → vl → Prop} {G : Prop} {k : Nat} {L : lo} {st : List Value} {v : vl} (row : ∀ x, L[k]? = some (some (.long x)) → K L (.long x :: st) v → G)
    (hP : ∀ q, (xldl k L st v).2 = some q → q) (kk : K (xldl k L st v).1.1 (xldl k L st v).1.2.1 (xldl k L st v).1.2.2) : G := by
  revert hP kk
  unfold xldl
  split
  · rename_i h; exact fun hP kk => row _ h kk
  · exact fun hP _ => (hP False rfl).elim
theorem k_xldd {K : lo → List Value → vl → Prop} {G : Prop} {k : Nat} {L : lo} {st : List Value} {v : vl} (row : ∀ x, L[k]? = some (some (.double x)) → K L (.double x :: st) v → G)
    (hP : ∀ q, (xldd k L st v).2 = some q → q) (kk : K (xldd k L st v).1.1 (xldd k L st v).1.2.1 (xldd k L st v).1.2.2) : G := by
  revert hP kk
  unfold xldd
  split
  · rename_i h; exact fun hP kk => row _ h kk
  · exact fun hP _ => (hP False rfl).elim
theorem k_xlda {K : lo → List Value → vl → Prop} {G : Prop} {k : Nat} {L : lo} {st : List Value} {v : vl} (row : ∀ x, L[k]? = some (some (.ref x)) → K L (.ref x :: st) v → G) (row2 : L[k]? = some (some .null) → K L (.null :: st) v → G)
    (hP : ∀ q, (xlda k L st v).2 = some q → q) (kk : K (xlda k L st v).1.1 (xlda k L st v).1.2.1 (xlda k L st v).1.2.2) : G := by
  revert hP kk
  unfold xlda
  split
  · rename_i h; exact fun hP kk => row _ h kk
  · rename_i h; exact fun hP kk => row2 h kk
  · exact fun hP _ => (hP False rfl).elim
theorem k_xsti {K : lo → List Value → vl → Prop} {G : List Value → Prop} {k : Nat} {L : lo} {st : List Value} {v : vl} (row : ∀ x r o, L[k]? = some o → K (lset1 L k (.int x)) r v → G (.int x :: r))
    (hP : ∀ q, (xsti k L st v).2 = some q → q) (kk : K (xsti k L st v).1.1 (xsti k L st v).1.2.1 (xsti k L st v).1.2.2) : G st := by
  revert hP kk
  unfold xsti
  split
  · rename_i h; exact fun hP kk => row _ _ _ h kk
  · exact fun hP _ => (hP False rfl).elim
theorem k_xsta {K : lo → List Value → vl → Prop} {G : List Value → Prop} {k : Nat} {L : lo} {st : List Value} {v : vl} (row : ∀ x r o, L[k]? = some o → K (lset1 L k (.ref x)) r v → G (.ref x :: r)) (row2 : ∀ r o, L[k]? = some o → K (lset1 L k .null) r v → G (.null :: r))
    (hP : ∀ q, (xsta k L st v).2 = some q → q) (kk : K (xsta k L st v).1.1 (xsta k L st v).1.2.1 (xsta k L st v).1.2.2) : G st := by
  revert hP kk
  unfold xsta
  split
  · rename_i h; exact fun hP kk => row _ _ _ h kk
  · rename_i h; exact fun hP kk => row2 _ _ h kk
  · exact fun hP _ => (hP False rfl).elim
theorem k_xstl {K : lo → List Value → vl → Prop} {G : List Value → Prop} {k : Nat} {L : lo} {st : List Value} {v : vl} (row : ∀ x r o, L[k + 1]? = some o → K (lset2 L k (.long x)) r v → G (.long x :: r))
    (hP : ∀ q, (xstl k L st v).2 = some q → q) (kk : K (xstl k L st v).1.1 (xstl k L st v).1.2.1 (xstl k L st v).1.2.2) : G st := by
  revert hP kk
  unfold xstl
  split
  · rename_i h; exact fun hP kk => row _ _ _ h kk
  · exact fun hP _ => (hP False rfl).elim
theorem k_xstd {K : lo → List Value → vl → Prop} {G : List Value → Prop} {k : Nat} {L : lo} {st : List Value} {v : vl} (row : ∀ x r o, L[k + 1]? = some o → K (lset2 L k (.double x)) r v → G (.double x :: r))
    (hP : ∀ q, (xstd k L st v).2 = some q → q) (kk : K (xstd k L st v).1.1 (xstd k L st v).1.2.1 (xstd k L st v).1.2.2) : G st := by
  revert hP kk
  unfold xstd
  split
  · rename_i h; exact fun hP kk => row _ _ _ h kk
  · exact fun hP _ => (hP False rfl).elim
theorem c1_cat {x : Value} (h : c1 x = true) : x.category = 1 := by
  cases x <;> first | rfl | cases h
theorem alen_of {S : shp} {a t n : Nat} (h : kin S a = some (t, n)) : alen S a = n := by unfold alen; rw [h]
section SEG
variable {p : Program} {l : Launch} {e : Env} {R : Room} {s : State} {m : MethodId} {args : Array Value} {below : List Frame} {meth : Method} {c : Code} {Q : State → Prop}
variable {E : env} {nL n0 z0 oc : Nat} {cc : ByteArray} {pc : Nat} {L : lo} {st rest : List Value} {S : shp} {v : vl}
theorem VW.ald (C : cxt p s m args c cc oc E) {a t : Nat} {i : Int32} (ht : t < 2) (hd : decode cc pc = .ok (if t = 0 then .iaload else .baload, 1)) (hk : kin S a = some (t + 1, alen S a) ∨ kin S a = some (t + 11, alen S a)) (hin : vp_in i (alen S a))
    (kk : VW p l e R s m args below meth c Q E nL n0 z0 (pc + 1) L (.int (gi v a i.toNatClampNeg) :: st) S v) : VW p l e R s m args below meth c Q E nL n0 z0 pc L (.int i :: .ref a :: st) S v := by
  obtain ⟨hx, hb, hown, hts, hK⟩ := C
  intro H locs cells slots ls hr hl hf hc hz
  have hlt : i.toNatClampNeg < alen S a := Nat.not_le.mp fun q => hin (Or.inr q)
  have kW := kk H locs cells slots ls hr hl hf hc hz
  have key : ∃ cell : Cell, H[a]? = some cell ∧ s.isArrayOf cell (aty t) ∧ cell.vm ≠ .unknown ∧ alen S a ≤ cell.slots.size ∧ cell.slots[i.toNatClampNeg]? = some (.int (gi v a i.toNatClampNeg)) := by
    rcases hk with hk | hk
    · obtain ⟨-, cA, h1, h2, -⟩ := hr.ar hk (by omega)
      refine ⟨arrV cA (alen S a) (aval S v t a), h1, h2 _ _, (fun h => by injection h), Nat.le_of_eq (arrV_size _ _ _).symm, ?_⟩
      rw [arrV_read _ _ hlt]
      rcases (show t = 0 ∨ t = 1 by omega) with rfl | rfl <;> rfl
    · obtain ⟨cell, h1, h2, h3, h4, -, h5⟩ := hr.ro hk ht
      exact ⟨cell, h1, h2, h3, h4, h5 _ hlt⟩
  clear kk hk
  obtain ⟨cell, h1, h2, h3, h4, h5⟩ := key
  have hi : ¬ (i < 0 ∨ cell.slots.size ≤ i.toNatClampNeg) := fun h => h.elim (fun h => hin (Or.inl h)) (fun h => absurd (Nat.le_trans h4 h) (by omega))
  rcases (show t = 0 ∨ t = 1 by omega) with rfl | rfl
  · rw [if_pos rfl] at hd
    exact W.iald hx hb h1 h2 h3 hi h5 rfl rfl hd kW
  · rw [if_neg (by decide)] at hd
    exact W.bald hx hb h1 h2 h3 hi h5 rfl rfl hd kW
theorem VW.lald (C : cxt p s m args c cc oc E) {a : Nat} {i : Int32} (hd : decode cc pc = .ok (.laload, 1)) (hk : kin S a = some (3, alen S a)) (hin : vp_in i (alen S a))
    (kk : VW p l e R s m args below meth c Q E nL n0 z0 (pc + 1) L (.long (gl v a i.toNatClampNeg) :: st) S v) : VW p l e R s m args below meth c Q E nL n0 z0 pc L (.int i :: .ref a :: st) S v := by
  obtain ⟨hx, hb, hown, hts, hK⟩ := C
  intro H locs cells slots ls hr hl hf hc hz
  have hlt : i.toNatClampNeg < alen S a := Nat.not_le.mp fun q => hin (Or.inr q)
  obtain ⟨-, cA, h1, h2, -⟩ := hr.ar (t := 2) hk (by omega)
  exact W.lald hx hb h1 (h2 _ _) (fun h => by injection h) (by rw [arrV_size]; exact hin) (by rw [arrV_read _ _ hlt]; rfl) rfl rfl hd (kk H locs cells slots ls hr hl hf hc hz)
theorem VW.aald (C : cxt p s m args c cc oc E) {a h : Nat} {i : Int32} (hd : decode cc pc = .ok (.aaload, 1)) (hk : kin S a = some (4, alen S a) ∨ kin S a = some (5, alen S a)) (hin : vp_in i (alen S a))
    (kk : VW p l e R s m args below meth c Q E nL n0 z0 (pc + 1) L (va_rf (gr S a i.toNatClampNeg) :: st) S v) : VW p l e R s m args below meth c Q E nL n0 z0 pc L (.int i :: .ref a :: st) S v := by
  obtain ⟨hx, hb, hown, hts, hK⟩ := C
  intro H locs cells slots ls hr hl hf hc hz
  have hlt : i.toNatClampNeg < alen S a := Nat.not_le.mp fun q => hin (Or.inr q)
  rcases hk with hk | hk
  · obtain ⟨-, cA, h1, h2, -⟩ := hr.ar (t := 3) hk (by omega)
    exact W.aald (ty := .object RX4) hx hb h1 (h2 _ _) rfl (fun h => by injection h) (by rw [arrV_size]; exact hin) (by rw [arrV_read _ _ hlt]; rfl) rfl rfl hd (kk H locs cells slots ls hr hl hf hc hz)
  · obtain ⟨-, cA, h1, h2, -⟩ := hr.ar (t := 4) hk (by omega)
    exact W.aald (ty := .object RX1) hx hb h1 (h2 _ _) rfl (fun h => by injection h) (by rw [arrV_size]; exact hin) (by rw [arrV_read _ _ hlt]; rfl) rfl rfl hd (kk H locs cells slots ls hr hl hf hc hz)
theorem aval_si {a t k j : Nat} {y : Int32} (ht : t < 2) : updV (aval S v t a) k (.int y) j = aval S (si v a k y) t a j := by
  have h : gi (si v a k y) a j = if j = k then y else gi v a j := by
    show up2 v.1 a k y a j = _
    unfold up2
    by_cases hj : j = k
    · rw [if_pos hj, if_pos ⟨rfl, hj⟩]
    · rw [if_neg hj, if_neg (fun h => hj h.2)]
      rfl
  have e : ∀ w : vl, aval S w t a j = .int (gi w a j) := by
    intro w
    rcases (show t = 0 ∨ t = 1 by omega) with rfl | rfl <;> rfl
  unfold updV
  rw [e, e, h]
  by_cases hj : j = k
  · rw [if_pos hj, if_pos hj]
  · rw [if_neg hj, if_neg hj]
theorem si_ne {a b k j : Nat} {y : Int32} (h : b ≠ a) : gi (si v a k y) b j = gi v b j := by
  show up2 v.1 a k y b j = v.1 b j
  unfold up2
  rw [if_neg (fun q => h q.1)]
theorem VW.ast (C : cxt p s m args c cc oc E) {a t : Nat} {i x : Int32} (ht : t < 2) (hd : decode cc pc = .ok (if t = 0 then .iastore else .bastore, 1)) (hk : kin S a = some (t + 1, alen S a)) (hin : vp_in i (alen S a))
    (kk : VW p l e R s m args below meth c Q E nL n0 z0 (pc + 1) L st S (si v a i.toNatClampNeg (if t = 1 then x.toInt8.toInt32 else x))) : VW p l e R s m args below meth c Q E nL n0 z0 pc L (.int x :: .int i :: .ref a :: st) S v := by
  obtain ⟨hx, hb, hown, hts, hK⟩ := C
  intro H locs cells slots ls hr hl hf hc hz
  obtain ⟨hba, cA, h1, h2, h3⟩ := hr.ar hk (by omega)
  have hbE : E.2.size ≤ a := by rw [← hr.1]; exact hba
  have go : ∀ (y : Int32) (H' : Heap), (y = if t = 1 then x.toInt8.toInt32 else x) → H'[a]? = some ((arrV cA (alen S a) (aval S v t a)).setSlot i.toNatClampNeg (.int y)) → H'.size = H.size → (∀ q, q ≠ a → H'[q]? = H[q]?) → W p l e R s m args below meth c H' (locs ++ [⟨a, i.toNatClampNeg⟩]) cells slots Q (F0 m (pc + 1) ls st) := by
    intro y H' hy e1 e2 e3
    rw [← hy] at kk
    refine kk H' _ cells slots ls (hr.mono hk (by show t + 1 < 10; omega) ⟨rfl, rfl⟩ e2 e3 (fun b j hb => ⟨si_ne hb, rfl, rfl⟩) (Or.inr ⟨t, rfl, by omega, cA, ?_, h2, h3⟩)) hl (fun q hq => ?_) hc hz
    · rw [e1, arrV_store]; exact congrArg (fun f => some (arrV cA (alen S a) f)) (funext fun j => aval_si ht)
    · rcases List.mem_append.mp hq with h | h
      · exact hf q h
      · rw [List.mem_singleton] at h; subst h; exact hbE
  clear kk
  rcases (show t = 0 ∨ t = 1 by omega) with rfl | rfl
  · rw [if_pos rfl] at hd
    exact W.iast hx hb h1 (h2 _ _) (fun h => by injection h) (by rw [arrV_size]; exact hin) rfl rfl hd (fun H' e1 e2 e3 => go x H' rfl e1 e2 e3)
  · rw [if_neg (by decide)] at hd
    exact W.bast hx hb h1 (h2 _ _) (fun h => by injection h) (by rw [arrV_size]; exact hin) rfl rfl hd (fun H' e1 e2 e3 => go _ H' rfl e1 e2 e3)
theorem aval_sl {a k j : Nat} {y : Int64} : updV (aval S v 2 a) k (.long y) j = aval S (sl v a k y) 2 a j := by
  have h : gl (sl v a k y) a j = if j = k then y else gl v a j := by
    show up2 v.2 a k y a j = _
    unfold up2
    by_cases hj : j = k
    · rw [if_pos hj, if_pos ⟨rfl, hj⟩]
    · rw [if_neg hj, if_neg (fun h => hj h.2)]
      rfl
  have e : ∀ w : vl, aval S w 2 a j = .long (gl w a j) := fun w => rfl
  unfold updV
  rw [e, e, h]
  by_cases hj : j = k
  · rw [if_pos hj, if_pos hj]
  · rw [if_neg hj, if_neg hj]
theorem sl_ne {a b k j : Nat} {y : Int64} (h : b ≠ a) : gl (sl v a k y) b j = gl v b j := by
  show up2 v.2 a k y b j = v.2 b j
  unfold up2
  rw [if_neg (fun q => h q.1)]
theorem VW.last (C : cxt p s m args c cc oc E) {a : Nat} {i : Int32} {x : Int64} (hd : decode cc pc = .ok (.lastore, 1)) (hk : kin S a = some (3, alen S a)) (hin : vp_in i (alen S a))
    (kk : VW p l e R s m args below meth c Q E nL n0 z0 (pc + 1) L st S (sl v a i.toNatClampNeg x)) : VW p l e R s m args below meth c Q E nL n0 z0 pc L (.long x :: .int i :: .ref a :: st) S v := by
  obtain ⟨hx, hb, hown, hts, hK⟩ := C
  intro H locs cells slots ls hr hl hf hc hz
  obtain ⟨hba, cA, h1, h2, h3⟩ := hr.ar (t := 2) hk (by omega)
  have hbE : E.2.size ≤ a := by rw [← hr.1]; exact hba
  refine W.last hx hb h1 (h2 _ _) (fun h => by injection h) (by rw [arrV_size]; exact hin) rfl rfl hd (fun H' e1 e2 e3 => ?_)
  refine kk H' _ cells slots ls (hr.mono hk (by simp) ⟨rfl, rfl⟩ e2 e3 (fun b j hb => ⟨rfl, sl_ne hb, rfl⟩) (Or.inr ⟨2, rfl, by omega, cA, ?_, h2, h3⟩)) hl (fun q hq => ?_) hc hz
  · rw [e1, arrV_store]; exact congrArg (fun f => some (arrV cA (alen S a) f)) (funext fun j => aval_sl)
  · rcases List.mem_append.mp hq with h | h
    · exact hf q h
    · rw [List.mem_singleton] at h; subst h; exact hbE
theorem VW.alen (C : cxt p s m args c cc oc E) {a : Nat} (hd : decode cc pc = .ok (.arraylength, 1)) (hk : isArr (kin S a))
    (kk : VW p l e R s m args below meth c Q E nL n0 z0 (pc + 1) L (.int (nI (alen S a)) :: st) S v) : VW p l e R s m args below meth c Q E nL n0 z0 pc L (.ref a :: st) S v := by
  obtain ⟨hx, hb, hown, hts, hK⟩ := C
  intro H locs cells slots ls hr hl hf hc hz
  obtain ⟨t, n, hk1, ht⟩ := hk
  have hal := alen_of hk1
  have key : ∃ (cell : Cell) (ty : FieldType), H[a]? = some cell ∧ s.isArrayOf cell ty ∧ cell.slots.size.toInt32 = nI n := by
    rcases ht with ⟨h1, h2⟩ | h | h
    · obtain ⟨u, rfl⟩ : ∃ u, t = u + 1 := ⟨t - 1, by omega⟩
      obtain ⟨-, cA, g1, g2, -⟩ := hr.ar hk1 (by omega)
      exact ⟨_, _, g1, g2 _ _, by rw [arrV_size]; rfl⟩
    · subst h
      obtain ⟨cell, g1, g2, g3, g4, g5, -⟩ := hr.ro (t := 0) hk1 (by omega)
      exact ⟨cell, _, g1, g2, g5⟩
    · subst h
      obtain ⟨cell, g1, g2, g3, g4, g5, -⟩ := hr.ro (t := 1) hk1 (by omega)
      exact ⟨cell, _, g1, g2, g5⟩
  obtain ⟨cell, ty, g1, g2, g3⟩ := key
  rw [hal] at kk
  exact W.alen hx hb g1 g2 g3 rfl rfl hd (kk H locs cells slots ls hr hl hf hc hz)
theorem fval_i {ci a k : Nat} (h : isR ci k = false) (h2 : isL ci k = false) : fval S v ci a k = .int (gi v a k) := by unfold fval; rw [if_neg (by rw [h]; decide), if_neg (by rw [h2]; decide)]
theorem isL_R {ci k : Nat} (h : isL ci k = true) : isR ci k = false := by
  unfold isL at h
  unfold isR
  cases hf : fty ci k <;> rw [hf] at h <;> first | rfl | cases h
theorem fval_l {ci a k : Nat} (h : isL ci k = true) : fval S v ci a k = .long (gl v a k) := by unfold fval; rw [if_neg (by rw [isL_R h]; decide), if_pos (by rw [h])]
theorem fval_r {ci a k : Nat} (h : isR ci k = true) : fval S v ci a k = va_rf (gr S a k) := by unfold fval; rw [if_pos h]
theorem fok_ok {t : FieldType} {x : Int32} (h : ∀ q, fok t x = some q → q) (ht : t ≠ .long ∧ t ≠ .float ∧ t ≠ .double ∧ (∀ n, t ≠ .object n) ∧ ∀ u, t ≠ .array u) : narrow t (.int x) = .int x ∧ fits t (.int x) = true := by
  cases t with
  | int => exact ⟨rfl, rfl⟩
  | long => exact absurd rfl ht.1
  | float => exact absurd rfl ht.2.1
  | double => exact absurd rfl ht.2.2.1
  | object n => exact absurd rfl (ht.2.2.2.1 n)
  | array u => exact absurd rfl (ht.2.2.2.2 u)
  | byte => exact h _ rfl
  | char => exact h _ rfl
  | short => exact h _ rfl
  | boolean => exact h _ rfl
theorem fty_prim {ci k : Nat} (h : isR ci k = false) (hL : isL ci k = false) (hci : ci < 9) (hk : k < (fTN ci).2.1) : fty ci k ≠ .long ∧ fty ci k ≠ .float ∧ fty ci k ≠ .double ∧ (∀ n, fty ci k ≠ .object n) ∧ ∀ u, fty ci k ≠ .array u := by
  have h1 : (∀ n, fty ci k ≠ .object n) ∧ ∀ u, fty ci k ≠ .array u := by
    constructor
    · intro n hn; unfold isR at h; rw [hn] at h; cases h
    · intro n hn; unfold isR at h; rw [hn] at h; cases h
  have h2 : ∀ ci, ci < 9 → ∀ k, k < (fTN ci).2.1 → fty ci k ≠ .float ∧ fty ci k ≠ .double := by decide +kernel
  have h3 : fty ci k ≠ .long := by
    intro hn
    unfold isL at hL
    rw [hn] at hL
    cases hL
  exact ⟨h3, (h2 ci hci k hk).1, (h2 ci hci k hk).2, h1.1, h1.2⟩
set_option maxHeartbeats 4000000 in
theorem VW.ex1 (C : cxt p s m args c cc oc E) (i : inr) (h : Nat) (hd : decode cc pc = .ok (i.1, ilen i.1)) (hl : lkok oc i = true) (hg : ∀ o, i.1 = .goto o → (pc : Int) + o = (inx i.1 pc : Int)) (hP : ∀ q, (ex1 i h S v L st).2 = some q → q)
    (kk : VW p l e R s m args below meth c Q E nL n0 z0 (inx i.1 pc) (ex1 i h S v L st).1.1 (ex1 i h S v L st).1.2.1 S (ex1 i h S v L st).1.2.2) : VW p l e R s m args below meth c Q E nL n0 z0 pc L st S v := by
  obtain ⟨hx, hb, hown, hts, hK⟩ := id C
  obtain ⟨i, ci, k, z⟩ := i
  dsimp only at hd hl hg
  cases i with
  | aconst_null => exact fun H locs cells slots ls hr hL hf hc hz => lv_null hx hb hd (kk H locs cells slots ls hr hL hf hc hz)
  | iconst n => exact fun H locs cells slots ls hr hL hf hc hz => lv_iconst hx hb hd (of_decide_eq_true hl) (kk H locs cells slots ls hr hL hf hc hz)
  | bipush n => exact fun H locs cells slots ls hr hL hf hc hz => lv_bipush hx hb hd (of_decide_eq_true hl) (kk H locs cells slots ls hr hL hf hc hz)
  | sipush n => exact fun H locs cells slots ls hr hL hf hc hz => lv_sipush hx hb hd (of_decide_eq_true hl) (kk H locs cells slots ls hr hL hf hc hz)
  | ldc n => exact fun H locs cells slots ls hr hL hf hc hz => lv_ldc hx hb hown (hts _ (ctab_ok oc _ (of_decide_eq_true hl)) rfl) hd (kk H locs cells slots ls hr hL hf hc hz)
  | ldc_w n => exact fun H locs cells slots ls hr hL hf hc hz => lv_ldcw hx hb hown (hts _ (ctab_ok oc _ (of_decide_eq_true hl)) rfl) hd (kk H locs cells slots ls hr hL hf hc hz)
  | lconst n => exact fun H locs cells slots ls hr hL hf hc hz => lv_lconst hx hb hd (of_decide_eq_true hl) (kk H locs cells slots ls hr hL hf hc hz)
  | ldc2_w n => exact fun H locs cells slots ls hr hL hf hc hz => lv_ldc2 hx hb hown (hts _ (cltab_ok oc _ (of_decide_eq_true hl)) rfl) hd (kk H locs cells slots ls hr hL hf hc hz)
  | fconst f =>
    by_cases hf0 : f = 0
    · subst hf0
      exact fun H locs cells slots ls hr hL hf hc hz => lv_fconst0 hx hb hd (kk H locs cells slots ls hr hL hf hc hz)
    · refine (hP False ?_).elim
      show (if f = 0 then _ else xno L st v).2 = some False
      rw [if_neg hf0]; rfl
  | dconst f =>
    by_cases hf0 : f = 0
    · subst hf0
      exact fun H locs cells slots ls hr hL hf hc hz => lv_dconst0 hx hb hd (kk H locs cells slots ls hr hL hf hc hz)
    · refine (hP False ?_).elim
      show (if f = 0 then _ else xno L st v).2 = some False
      rw [if_neg hf0]; rfl
  | iload k => exact k_xldi (K := fun L st v => VW p l e R s m args below meth c Q E nL n0 z0 (pc + 2) L st S v) (fun x hx1 k1 H locs cells slots ls hr hL hf hc hz => lv_iload hx hb hd (hL.get hx1) (k1 H locs cells slots ls hr hL hf hc hz)) hP kk
  | iload_n k => exact k_xldi (K := fun L st v => VW p l e R s m args below meth c Q E nL n0 z0 (pc + 1) L st S v) (fun x hx1 k1 H locs cells slots ls hr hL hf hc hz => lv_iload_n hx hb hd rfl (hL.get hx1) (k1 H locs cells slots ls hr hL hf hc hz)) hP kk
  | lload k => exact k_xldl (K := fun L st v => VW p l e R s m args below meth c Q E nL n0 z0 (pc + 2) L st S v) (fun x hx1 k1 H locs cells slots ls hr hL hf hc hz => lv_lload hx hb hd (hL.get hx1) (k1 H locs cells slots ls hr hL hf hc hz)) hP kk
  | lload_n k => exact k_xldl (K := fun L st v => VW p l e R s m args below meth c Q E nL n0 z0 (pc + 1) L st S v) (fun x hx1 k1 H locs cells slots ls hr hL hf hc hz => lv_lload_n hx hb hd rfl (hL.get hx1) (k1 H locs cells slots ls hr hL hf hc hz)) hP kk
  | dload k => exact k_xldd (K := fun L st v => VW p l e R s m args below meth c Q E nL n0 z0 (pc + 2) L st S v) (fun x hx1 k1 H locs cells slots ls hr hL hf hc hz => lv_dload hx hb hd (hL.get hx1) (k1 H locs cells slots ls hr hL hf hc hz)) hP kk
  | dload_n k => exact k_xldd (K := fun L st v => VW p l e R s m args below meth c Q E nL n0 z0 (pc + 1) L st S v) (fun x hx1 k1 H locs cells slots ls hr hL hf hc hz => lv_dload_n hx hb hd rfl (hL.get hx1) (k1 H locs cells slots ls hr hL hf hc hz)) hP kk
  | aload k => exact k_xlda (K := fun L st v => VW p l e R s m args below meth c Q E nL n0 z0 (pc + 2) L st S v) (fun x hx1 k1 H locs cells slots ls hr hL hf hc hz => lv_aload hx hb hd (hL.get hx1) (k1 H locs cells slots ls hr hL hf hc hz)) (fun hx1 k1 H locs cells slots ls hr hL hf hc hz => lv_aloadN hx hb hd (hL.get hx1) (k1 H locs cells slots ls hr hL hf hc hz)) hP kk
  | aload_n k => exact k_xlda (K := fun L st v => VW p l e R s m args below meth c Q E nL n0 z0 (pc + 1) L st S v) (fun x hx1 k1 H locs cells slots ls hr hL hf hc hz => lv_aload_n hx hb hd rfl (hL.get hx1) (k1 H locs cells slots ls hr hL hf hc hz)) (fun hx1 k1 H locs cells slots ls hr hL hf hc hz => lv_aload_nN hx hb hd rfl (hL.get hx1) (k1 H locs cells slots ls hr hL hf hc hz)) hP kk
  | istore k => exact k_xsti (K := fun L st v => VW p l e R s m args below meth c Q E nL n0 z0 (pc + 2) L st S v) (G := fun st => VW p l e R s m args below meth c Q E nL n0 z0 pc L st S v) (fun x r o ho k1 H locs cells slots ls hr hL hf hc hz => lv_istore hx hb hd hL.has (hL.lt ho) rfl (fun ls' h' => k1 H locs cells slots ls' hr (hL.set1 h') hf hc hz)) hP kk
  | istore_n k => exact k_xsti (K := fun L st v => VW p l e R s m args below meth c Q E nL n0 z0 (pc + 1) L st S v) (G := fun st => VW p l e R s m args below meth c Q E nL n0 z0 pc L st S v) (fun x r o ho k1 H locs cells slots ls hr hL hf hc hz => lv_istore_n hx hb hd rfl hL.has (hL.lt ho) rfl (fun ls' h' => k1 H locs cells slots ls' hr (hL.set1 h') hf hc hz)) hP kk
  | astore k => exact k_xsta (K := fun L st v => VW p l e R s m args below meth c Q E nL n0 z0 (pc + 2) L st S v) (G := fun st => VW p l e R s m args below meth c Q E nL n0 z0 pc L st S v) (fun x r o ho k1 H locs cells slots ls hr hL hf hc hz => lv_astore hx hb hd hL.has (hL.lt ho) rfl (fun ls' h' => k1 H locs cells slots ls' hr (hL.set1 h') hf hc hz)) (fun r o ho k1 H locs cells slots ls hr hL hf hc hz => lv_astoreN hx hb hd hL.has (hL.lt ho) rfl (fun ls' h' => k1 H locs cells slots ls' hr (hL.set1 h') hf hc hz)) hP kk
  | astore_n k => exact k_xsta (K := fun L st v => VW p l e R s m args below meth c Q E nL n0 z0 (pc + 1) L st S v) (G := fun st => VW p l e R s m args below meth c Q E nL n0 z0 pc L st S v) (fun x r o ho k1 H locs cells slots ls hr hL hf hc hz => lv_astore_n hx hb hd rfl hL.has (hL.lt ho) rfl (fun ls' h' => k1 H locs cells slots ls' hr (hL.set1 h') hf hc hz)) (fun r o ho k1 H locs cells slots ls hr hL hf hc hz => lv_astore_nN hx hb hd rfl hL.has (hL.lt ho) rfl (fun ls' h' => k1 H locs cells slots ls' hr (hL.set1 h') hf hc hz)) hP kk
  | lstore k => exact k_xstl (K := fun L st v => VW p l e R s m args below meth c Q E nL n0 z0 (pc + 2) L st S v) (G := fun st => VW p l e R s m args below meth c Q E nL n0 z0 pc L st S v) (fun x r o ho k1 H locs cells slots ls hr hL hf hc hz => lv_lstore hx hb hd hL.has (hL.lt ho) rfl (fun ls' h' => k1 H locs cells slots ls' hr (hL.set2 h') hf hc hz)) hP kk
  | lstore_n k => exact k_xstl (K := fun L st v => VW p l e R s m args below meth c Q E nL n0 z0 (pc + 1) L st S v) (G := fun st => VW p l e R s m args below meth c Q E nL n0 z0 pc L st S v) (fun x r o ho k1 H locs cells slots ls hr hL hf hc hz => lv_lstore_n hx hb hd rfl hL.has (hL.lt ho) rfl (fun ls' h' => k1 H locs cells slots ls' hr (hL.set2 h') hf hc hz)) hP kk
  | dstore k => exact k_xstd (K := fun L st v => VW p l e R s m args below meth c Q E nL n0 z0 (pc + 2) L st S v) (G := fun st => VW p l e R s m args below meth c Q E nL n0 z0 pc L st S v) (fun x r o ho k1 H locs cells slots ls hr hL hf hc hz => lv_dstore hx hb hd hL.has (hL.lt ho) rfl (fun ls' h' => k1 H locs cells slots ls' hr (hL.set2 h') hf hc hz)) hP kk
  | dstore_n k => exact k_xstd (K := fun L st v => VW p l e R s m args below meth c Q E nL n0 z0 (pc + 1) L st S v) (G := fun st => VW p l e R s m args below meth c Q E nL n0 z0 pc L st S v) (fun x r o ho k1 H locs cells slots ls hr hL hf hc hz => lv_dstore_n hx hb hd rfl hL.has (hL.lt ho) rfl (fun ls' h' => k1 H locs cells slots ls' hr (hL.set2 h') hf hc hz)) hP kk
  | iinc k n =>
    have hn : n = z := of_decide_eq_true hl
    subst hn
    revert hP kk
    show (∀ q, (xiinc k n L st v).2 = some q → q) → VW p l e R s m args below meth c Q E nL n0 z0 (pc + 3) (xiinc k n L st v).1.1 (xiinc k n L st v).1.2.1 S (xiinc k n L st v).1.2.2 → _
    unfold xiinc
    split
    · rename_i x hx1
      intro hP kk H locs cells slots ls hr hL hf hc hz
      obtain ⟨j, hj⟩ := List.getElem?_of_mem (lasc_mem.mpr hx1)
      exact lv_iinc hx hb hd hL.has hj rfl (hL.lt hx1) rfl (fun ls' h' => kk H locs cells slots ls' hr (hL.set1 h') hf hc hz)
    · exact fun hP _ => (hP False rfl).elim
  | iadd => exact k_xi2 (K := fun L st v => VW p l e R s m args below meth c Q E nL n0 z0 (pc + 1) L st S v) (G := fun st => VW p l e R s m args below meth c Q E nL n0 z0 pc L st S v) (fun x y r _ k1 H locs cells slots ls hr hL hf hc hz => lv_iadd hx hb hd (k1 H locs cells slots ls hr hL hf hc hz)) hP kk
  | isub => exact k_xi2 (K := fun L st v => VW p l e R s m args below meth c Q E nL n0 z0 (pc + 1) L st S v) (G := fun st => VW p l e R s m args below meth c Q E nL n0 z0 pc L st S v) (fun x y r _ k1 H locs cells slots ls hr hL hf hc hz => lv_isub hx hb hd (k1 H locs cells slots ls hr hL hf hc hz)) hP kk
  | imul => exact k_xi2 (K := fun L st v => VW p l e R s m args below meth c Q E nL n0 z0 (pc + 1) L st S v) (G := fun st => VW p l e R s m args below meth c Q E nL n0 z0 pc L st S v) (fun x y r _ k1 H locs cells slots ls hr hL hf hc hz => lv_imul hx hb hd (k1 H locs cells slots ls hr hL hf hc hz)) hP kk
  | iand => exact k_xi2 (K := fun L st v => VW p l e R s m args below meth c Q E nL n0 z0 (pc + 1) L st S v) (G := fun st => VW p l e R s m args below meth c Q E nL n0 z0 pc L st S v) (fun x y r _ k1 H locs cells slots ls hr hL hf hc hz => lv_iand hx hb hd (k1 H locs cells slots ls hr hL hf hc hz)) hP kk
  | ior => exact k_xi2 (K := fun L st v => VW p l e R s m args below meth c Q E nL n0 z0 (pc + 1) L st S v) (G := fun st => VW p l e R s m args below meth c Q E nL n0 z0 pc L st S v) (fun x y r _ k1 H locs cells slots ls hr hL hf hc hz => lv_ior hx hb hd (k1 H locs cells slots ls hr hL hf hc hz)) hP kk
  | ixor => exact k_xi2 (K := fun L st v => VW p l e R s m args below meth c Q E nL n0 z0 (pc + 1) L st S v) (G := fun st => VW p l e R s m args below meth c Q E nL n0 z0 pc L st S v) (fun x y r _ k1 H locs cells slots ls hr hL hf hc hz => lv_ixor hx hb hd (k1 H locs cells slots ls hr hL hf hc hz)) hP kk
  | ishl => exact k_xi2 (K := fun L st v => VW p l e R s m args below meth c Q E nL n0 z0 (pc + 1) L st S v) (G := fun st => VW p l e R s m args below meth c Q E nL n0 z0 pc L st S v) (fun x y r _ k1 H locs cells slots ls hr hL hf hc hz => lv_ishl hx hb hd (k1 H locs cells slots ls hr hL hf hc hz)) hP kk
  | ishr => exact k_xi2 (K := fun L st v => VW p l e R s m args below meth c Q E nL n0 z0 (pc + 1) L st S v) (G := fun st => VW p l e R s m args below meth c Q E nL n0 z0 pc L st S v) (fun x y r _ k1 H locs cells slots ls hr hL hf hc hz => lv_ishr hx hb hd (k1 H locs cells slots ls hr hL hf hc hz)) hP kk
  | iushr => exact k_xi2 (K := fun L st v => VW p l e R s m args below meth c Q E nL n0 z0 (pc + 1) L st S v) (G := fun st => VW p l e R s m args below meth c Q E nL n0 z0 pc L st S v) (fun x y r _ k1 H locs cells slots ls hr hL hf hc hz => lv_iushr hx hb hd rfl (k1 H locs cells slots ls hr hL hf hc hz)) hP kk
  | idiv => exact k_xi2 (K := fun L st v => VW p l e R s m args below meth c Q E nL n0 z0 (pc + 1) L st S v) (G := fun st => VW p l e R s m args below meth c Q E nL n0 z0 pc L st S v) (fun x y r hp k1 H locs cells slots ls hr hL hf hc hz => lv_idiv hx hb hd (hp _ rfl) (k1 H locs cells slots ls hr hL hf hc hz)) hP kk
  | irem => exact k_xi2 (K := fun L st v => VW p l e R s m args below meth c Q E nL n0 z0 (pc + 1) L st S v) (G := fun st => VW p l e R s m args below meth c Q E nL n0 z0 pc L st S v) (fun x y r hp k1 H locs cells slots ls hr hL hf hc hz => lv_irem hx hb hd (hp _ rfl) (k1 H locs cells slots ls hr hL hf hc hz)) hP kk
  | ineg => exact k_xi1 (K := fun L st v => VW p l e R s m args below meth c Q E nL n0 z0 (pc + 1) L st S v) (G := fun st => VW p l e R s m args below meth c Q E nL n0 z0 pc L st S v) (fun x r k1 H locs cells slots ls hr hL hf hc hz => lv_ineg hx hb hd (k1 H locs cells slots ls hr hL hf hc hz)) hP kk
  | i2l => exact k_xi1 (K := fun L st v => VW p l e R s m args below meth c Q E nL n0 z0 (pc + 1) L st S v) (G := fun st => VW p l e R s m args below meth c Q E nL n0 z0 pc L st S v) (fun x r k1 H locs cells slots ls hr hL hf hc hz => lv_i2l hx hb hd rfl (k1 H locs cells slots ls hr hL hf hc hz)) hP kk
  | i2b => exact k_xi1 (K := fun L st v => VW p l e R s m args below meth c Q E nL n0 z0 (pc + 1) L st S v) (G := fun st => VW p l e R s m args below meth c Q E nL n0 z0 pc L st S v) (fun x r k1 H locs cells slots ls hr hL hf hc hz => lv_i2b hx hb hd rfl (k1 H locs cells slots ls hr hL hf hc hz)) hP kk
  | i2c => exact k_xi1 (K := fun L st v => VW p l e R s m args below meth c Q E nL n0 z0 (pc + 1) L st S v) (G := fun st => VW p l e R s m args below meth c Q E nL n0 z0 pc L st S v) (fun x r k1 H locs cells slots ls hr hL hf hc hz => lv_i2c hx hb hd rfl (k1 H locs cells slots ls hr hL hf hc hz)) hP kk
  | i2f => exact k_xi1 (K := fun L st v => VW p l e R s m args below meth c Q E nL n0 z0 (pc + 1) L st S v) (G := fun st => VW p l e R s m args below meth c Q E nL n0 z0 pc L st S v) (fun x r k1 H locs cells slots ls hr hL hf hc hz => lv_i2f hx hb hd (k1 H locs cells slots ls hr hL hf hc hz)) hP kk
  | i2d => exact k_xi1 (K := fun L st v => VW p l e R s m args below meth c Q E nL n0 z0 (pc + 1) L st S v) (G := fun st => VW p l e R s m args below meth c Q E nL n0 z0 pc L st S v) (fun x r k1 H locs cells slots ls hr hL hf hc hz => lv_i2d hx hb hd (k1 H locs cells slots ls hr hL hf hc hz)) hP kk
  | ladd => exact k_xl2 (K := fun L st v => VW p l e R s m args below meth c Q E nL n0 z0 (pc + 1) L st S v) (G := fun st => VW p l e R s m args below meth c Q E nL n0 z0 pc L st S v) (fun x y r _ k1 H locs cells slots ls hr hL hf hc hz => lv_ladd hx hb hd (k1 H locs cells slots ls hr hL hf hc hz)) hP kk
  | lsub => exact k_xl2 (K := fun L st v => VW p l e R s m args below meth c Q E nL n0 z0 (pc + 1) L st S v) (G := fun st => VW p l e R s m args below meth c Q E nL n0 z0 pc L st S v) (fun x y r _ k1 H locs cells slots ls hr hL hf hc hz => lv_lsub hx hb hd (k1 H locs cells slots ls hr hL hf hc hz)) hP kk
  | lmul => exact k_xl2 (K := fun L st v => VW p l e R s m args below meth c Q E nL n0 z0 (pc + 1) L st S v) (G := fun st => VW p l e R s m args below meth c Q E nL n0 z0 pc L st S v) (fun x y r _ k1 H locs cells slots ls hr hL hf hc hz => lv_lmul hx hb hd (k1 H locs cells slots ls hr hL hf hc hz)) hP kk
  | lxor => exact k_xl2 (K := fun L st v => VW p l e R s m args below meth c Q E nL n0 z0 (pc + 1) L st S v) (G := fun st => VW p l e R s m args below meth c Q E nL n0 z0 pc L st S v) (fun x y r _ k1 H locs cells slots ls hr hL hf hc hz => lv_lxor hx hb hd (k1 H locs cells slots ls hr hL hf hc hz)) hP kk
  | ldiv => exact k_xl2 (K := fun L st v => VW p l e R s m args below meth c Q E nL n0 z0 (pc + 1) L st S v) (G := fun st => VW p l e R s m args below meth c Q E nL n0 z0 pc L st S v) (fun x y r hp k1 H locs cells slots ls hr hL hf hc hz => lv_ldiv hx hb hd (hp _ rfl) (k1 H locs cells slots ls hr hL hf hc hz)) hP kk
  | lcmp => exact k_xl2 (K := fun L st v => VW p l e R s m args below meth c Q E nL n0 z0 (pc + 1) L st S v) (G := fun st => VW p l e R s m args below meth c Q E nL n0 z0 pc L st S v) (fun x y r _ k1 H locs cells slots ls hr hL hf hc hz => W.lcmp hx hb hd (k1 H locs cells slots ls hr hL hf hc hz)) hP kk
  | l2i => exact k_xl1 (K := fun L st v => VW p l e R s m args below meth c Q E nL n0 z0 (pc + 1) L st S v) (G := fun st => VW p l e R s m args below meth c Q E nL n0 z0 pc L st S v) (fun x r k1 H locs cells slots ls hr hL hf hc hz => lv_l2i hx hb hd rfl (k1 H locs cells slots ls hr hL hf hc hz)) hP kk
  | l2d => exact k_xl1 (K := fun L st v => VW p l e R s m args below meth c Q E nL n0 z0 (pc + 1) L st S v) (G := fun st => VW p l e R s m args below meth c Q E nL n0 z0 pc L st S v) (fun x r k1 H locs cells slots ls hr hL hf hc hz => lv_l2d hx hb hd (k1 H locs cells slots ls hr hL hf hc hz)) hP kk
  | goto o => exact fun H locs cells slots ls hr hL hf hc hz => lv_goto hx hb hd (hg o rfl) (kk H locs cells slots ls hr hL hf hc hz)
  | dup =>
    revert hP kk
    show (∀ q, (xdup L st v).2 = some q → q) → VW p l e R s m args below meth c Q E nL n0 z0 (pc + 1) (xdup L st v).1.1 (xdup L st v).1.2.1 S (xdup L st v).1.2.2 → _
    unfold xdup
    split
    · split
      · rename_i h1
        intro hP kk H locs cells slots ls hr hL hf hc hz
        exact lv_dup hx hb hd (c1_cat h1) (kk H locs cells slots ls hr hL hf hc hz)
      · exact fun hP _ => (hP False rfl).elim
    · exact fun hP _ => (hP False rfl).elim
  | dup2 =>
    revert hP kk
    show (∀ q, (xdup2 L st v).2 = some q → q) → VW p l e R s m args below meth c Q E nL n0 z0 (pc + 1) (xdup2 L st v).1.1 (xdup2 L st v).1.2.1 S (xdup2 L st v).1.2.2 → _
    unfold xdup2
    split
    · split
      · rename_i h1 h2
        intro hP kk H locs cells slots ls hr hL hf hc hz
        exact lv_dup2_11 hx hb hd (c1_cat h1) (c1_cat h2) (kk H locs cells slots ls hr hL hf hc hz)
      · exact fun hP _ => (hP False rfl).elim
    · exact fun hP _ => (hP False rfl).elim
  | dup_x1 =>
    revert hP kk
    show (∀ q, (xdupx1 L st v).2 = some q → q) → VW p l e R s m args below meth c Q E nL n0 z0 (pc + 1) (xdupx1 L st v).1.1 (xdupx1 L st v).1.2.1 S (xdupx1 L st v).1.2.2 → _
    unfold xdupx1
    split
    · split
      · rename_i h1 h2
        intro hP kk H locs cells slots ls hr hL hf hc hz
        exact lv_dup_x1 hx hb hd (c1_cat h1) (c1_cat h2) (kk H locs cells slots ls hr hL hf hc hz)
      · exact fun hP _ => (hP False rfl).elim
    · exact fun hP _ => (hP False rfl).elim
  | pop =>
    revert hP kk
    show (∀ q, (xpop L st v).2 = some q → q) → VW p l e R s m args below meth c Q E nL n0 z0 (pc + 1) (xpop L st v).1.1 (xpop L st v).1.2.1 S (xpop L st v).1.2.2 → _
    unfold xpop
    split
    · split
      · rename_i h1
        intro hP kk H locs cells slots ls hr hL hf hc hz
        exact lv_pop hx hb hd (c1_cat h1) (kk H locs cells slots ls hr hL hf hc hz)
      · exact fun hP _ => (hP False rfl).elim
    · exact fun hP _ => (hP False rfl).elim
  | getfield n =>
    have hq : (n, ci, k) ∈ ftab oc := of_decide_eq_true hl
    revert hP kk
    show (∀ q, (xget ci k h S L st v).2 = some q → q) → VW p l e R s m args below meth c Q E nL n0 z0 (pc + 3) (xget ci k h S L st v).1.1 (xget ci k h S L st v).1.2.1 S (xget ci k h S L st v).1.2.2 → _
    unfold xget
    split
    · split
      · rename_i h1
        intro hP kk
        obtain ⟨g1, g2⟩ := hP _ rfl
        refine VW.get C hd hq g1 ?_
        rw [fval_r h1, g2]
        exact kk
      · rename_i h1
        split
        · rename_i h2
          intro hP kk
          refine VW.get C hd hq (hP _ rfl) ?_
          rw [fval_l h2]
          exact kk
        · rename_i h2
          intro hP kk
          refine VW.get C hd hq (hP _ rfl) ?_
          rw [fval_i h1 h2]
          exact kk
    · exact fun hP _ => (hP False rfl).elim
  | putfield n =>
    have hl2 : (decide ((n, ci, k) ∈ ftab oc) && decide (((fTN ci).1 k).2.2.2 = false)) = true := hl
    rw [Bool.and_eq_true] at hl2
    have hq : (n, ci, k) ∈ ftab oc := of_decide_eq_true hl2.1
    have hfin := of_decide_eq_true hl2.2
    revert hP kk
    show (∀ q, (xput ci k S L st v).2 = some q → q) → VW p l e R s m args below meth c Q E nL n0 z0 (pc + 3) (xput ci k S L st v).1.1 (xput ci k S L st v).1.2.1 S (xput ci k S L st v).1.2.2 → _
    unfold xput
    split
    · split
      · exact fun hP _ => (hP False rfl).elim
      · rename_i x a r b9 h1
        split
        · exact fun hP _ => (hP False rfl).elim
        · rename_i h2
          intro hP kk
          have g1 : kin S a = some (0, ci) := by
            unfold pand at hP
            split at hP
            · exact hP _ rfl
            · exact (hP _ rfl).1
          have g2 : ∀ q, fok (fty ci k) x = some q → q := by
            intro q hq2
            rw [hq2] at hP
            exact (hP _ rfl).2
          obtain ⟨w1, w2, w3, w4⟩ := ftab_ok oc _ hq
          obtain ⟨f1, f2⟩ := fok_ok g2 (fty_prim h1 h2 w4 w3)
          refine VW.put0 (v1 := si v a k x) (S1 := S) C hd hq (Or.inl hfin) g1 f1 f2 ⟨rfl, rfl⟩ (fun b j hbj => ⟨?_, rfl, rfl⟩) ?_ kk
          · show up2 v.1 a k x b j = v.1 b j
            unfold up2
            rw [if_neg (fun h => hbj.elim (fun z => z h.1) (fun z => z h.2))]
          · rw [fval_i h1 h2]
            show Value.int (up2 v.1 a k x a k) = _
            unfold up2
            rw [if_pos ⟨rfl, rfl⟩]
    · split
      · rename_i x a r b9 h2
        intro hP kk
        have hty : fty ci k = .long := by
          unfold isL at h2
          split at h2
          · assumption
          · cases h2
        refine VW.put0 (v1 := sl v a k x) (S1 := S) C hd hq (Or.inl hfin) (hP _ rfl) (by rw [hty]; rfl) (by rw [hty]; rfl) ⟨rfl, rfl⟩ (fun b j hbj => ⟨rfl, ?_, rfl⟩) ?_ kk
        · show up2 v.2 a k x b j = v.2 b j
          unfold up2
          rw [if_neg (fun h => hbj.elim (fun z => z h.1) (fun z => z h.2))]
        · rw [fval_l h2]
          show Value.long (up2 v.2 a k x a k) = _
          unfold up2
          rw [if_pos ⟨rfl, rfl⟩]
      · exact fun hP _ => (hP False rfl).elim
    · exact fun hP _ => (hP False rfl).elim
  | iaload =>
    revert hP kk
    show (∀ q, (xald 0 S L st v).2 = some q → q) → VW p l e R s m args below meth c Q E nL n0 z0 (pc + 1) (xald 0 S L st v).1.1 (xald 0 S L st v).1.2.1 S (xald 0 S L st v).1.2.2 → _
    unfold xald
    split
    · intro hP kk
      obtain ⟨g1, g2⟩ := hP _ rfl
      exact VW.ald C (t := 0) (by omega) hd g1 g2 kk
    · exact fun hP _ => (hP False rfl).elim
  | baload =>
    revert hP kk
    show (∀ q, (xald 1 S L st v).2 = some q → q) → VW p l e R s m args below meth c Q E nL n0 z0 (pc + 1) (xald 1 S L st v).1.1 (xald 1 S L st v).1.2.1 S (xald 1 S L st v).1.2.2 → _
    unfold xald
    split
    · intro hP kk
      obtain ⟨g1, g2⟩ := hP _ rfl
      exact VW.ald C (t := 1) (by omega) hd g1 g2 kk
    · exact fun hP _ => (hP False rfl).elim
  | laload =>
    revert hP kk
    show (∀ q, (xlald S L st v).2 = some q → q) → VW p l e R s m args below meth c Q E nL n0 z0 (pc + 1) (xlald S L st v).1.1 (xlald S L st v).1.2.1 S (xlald S L st v).1.2.2 → _
    unfold xlald
    split
    · intro hP kk
      obtain ⟨g1, g2⟩ := hP _ rfl
      exact VW.lald C hd g1 g2 kk
    · exact fun hP _ => (hP False rfl).elim
  | iastore =>
    revert hP kk
    show (∀ q, (xast 0 S L st v).2 = some q → q) → VW p l e R s m args below meth c Q E nL n0 z0 (pc + 1) (xast 0 S L st v).1.1 (xast 0 S L st v).1.2.1 S (xast 0 S L st v).1.2.2 → _
    unfold xast
    split
    · intro hP kk
      obtain ⟨g1, g2⟩ := hP _ rfl
      exact VW.ast C (t := 0) (by omega) hd g1 g2 kk
    · exact fun hP _ => (hP False rfl).elim
  | bastore =>
    revert hP kk
    show (∀ q, (xast 1 S L st v).2 = some q → q) → VW p l e R s m args below meth c Q E nL n0 z0 (pc + 1) (xast 1 S L st v).1.1 (xast 1 S L st v).1.2.1 S (xast 1 S L st v).1.2.2 → _
    unfold xast
    split
    · intro hP kk
      obtain ⟨g1, g2⟩ := hP _ rfl
      exact VW.ast C (t := 1) (by omega) hd g1 g2 kk
    · exact fun hP _ => (hP False rfl).elim
  | lastore =>
    revert hP kk
    show (∀ q, (xlast S L st v).2 = some q → q) → VW p l e R s m args below meth c Q E nL n0 z0 (pc + 1) (xlast S L st v).1.1 (xlast S L st v).1.2.1 S (xlast S L st v).1.2.2 → _
    unfold xlast
    split
    · intro hP kk
      obtain ⟨g1, g2⟩ := hP _ rfl
      exact VW.last C hd g1 g2 kk
    · exact fun hP _ => (hP False rfl).elim
  | aaload =>
    revert hP kk
    show (∀ q, (xaald h S L st v).2 = some q → q) → VW p l e R s m args below meth c Q E nL n0 z0 (pc + 1) (xaald h S L st v).1.1 (xaald h S L st v).1.2.1 S (xaald h S L st v).1.2.2 → _
    unfold xaald
    split
    · intro hP kk
      obtain ⟨g1, g2, g3⟩ := hP _ rfl
      refine VW.aald (h := h) C hd g1 g2 ?_
      rw [g3]
      exact kk
    · exact fun hP _ => (hP False rfl).elim
  | arraylength =>
    revert hP kk
    show (∀ q, (xalen S L st v).2 = some q → q) → VW p l e R s m args below meth c Q E nL n0 z0 (pc + 1) (xalen S L st v).1.1 (xalen S L st v).1.2.1 S (xalen S L st v).1.2.2 → _
    unfold xalen
    split
    · intro hP kk
      exact VW.alen C hd (hP _ rfl) kk
    · exact fun hP _ => (hP False rfl).elim
  | ddiv =>
    revert hP kk
    show (∀ q, (xddiv L st v).2 = some q → q) → VW p l e R s m args below meth c Q E nL n0 z0 (pc + 1) (xddiv L st v).1.1 (xddiv L st v).1.2.1 S (xddiv L st v).1.2.2 → _
    unfold xddiv
    split
    · intro hP kk H locs cells slots ls hr hL hf hc hz
      exact lv_ddiv hx hb hd (hP _ rfl) (kk H locs cells slots ls hr hL hf hc hz)
    · exact fun hP _ => (hP False rfl).elim
  | fdiv =>
    revert hP kk
    show (∀ q, (xfdiv L st v).2 = some q → q) → VW p l e R s m args below meth c Q E nL n0 z0 (pc + 1) (xfdiv L st v).1.1 (xfdiv L st v).1.2.1 S (xfdiv L st v).1.2.2 → _
    unfold xfdiv
    split
    · intro hP kk H locs cells slots ls hr hL hf hc hz
      exact lv_fdiv hx hb hd (hP _ rfl) (kk H locs cells slots ls hr hL hf hc hz)
    · exact fun hP _ => (hP False rfl).elim
  | f2d =>
    revert hP kk
    show (∀ q, (xf2d L st v).2 = some q → q) → VW p l e R s m args below meth c Q E nL n0 z0 (pc + 1) (xf2d L st v).1.1 (xf2d L st v).1.2.1 S (xf2d L st v).1.2.2 → _
    unfold xf2d
    split
    · intro hP kk H locs cells slots ls hr hL hf hc hz
      exact lv_f2d hx hb hd (hP _ rfl) (kk H locs cells slots ls hr hL hf hc hz)
    · exact fun hP _ => (hP False rfl).elim
  | dcmp o =>
    revert hP kk
    show (∀ q, (xdcmp o L st v).2 = some q → q) → VW p l e R s m args below meth c Q E nL n0 z0 (pc + 1) (xdcmp o L st v).1.1 (xdcmp o L st v).1.2.1 S (xdcmp o L st v).1.2.2 → _
    unfold xdcmp
    split
    · intro hP kk H locs cells slots ls hr hL hf hc hz
      exact lv_dcmp hx hb hd (kk H locs cells slots ls hr hL hf hc hz)
    · exact fun hP _ => (hP False rfl).elim
  | fcmp o =>
    revert hP kk
    show (∀ q, (xfcmp o L st v).2 = some q → q) → VW p l e R s m args below meth c Q E nL n0 z0 (pc + 1) (xfcmp o L st v).1.1 (xfcmp o L st v).1.2.1 S (xfcmp o L st v).1.2.2 → _
    unfold xfcmp
    split
    · intro hP kk H locs cells slots ls hr hL hf hc hz
      exact lv_fcmp hx hb hd (kk H locs cells slots ls hr hL hf hc hz)
    · exact fun hP _ => (hP False rfl).elim
  | _ => exact (hP False rfl).elim
/-- a stretch of instructions, from pc to q -/
def sgm (cc : ByteArray) (oc : Nat) : Nat → List inr → Nat → Bool
  | pc, [], q => decide (pc = q)
  | pc, i :: is, q => decide (decode cc pc = .ok (i.1, ilen i.1)) && (lkok oc i && (sgok i.1 pc && sgm cc oc (inx i.1 pc) is q))
where sgok (i : Instr) (pc : Nat) : Bool := match i with
  | .goto o => decide ((pc : Int) + o = (inx i pc : Int))
  | _ => true
/-- an instruction that takes one of the addresses told beside -/
def tkh (i : inr) : Bool := match i.1 with
  | .getfield _ => isR i.2.1 i.2.2.1
  | .aaload => true
  | _ => false
def exs : List inr → List Nat → shp → vl → lo → List Value → (lo × List Value × vl) × Prop
  | [], _, _, v, L, st => ((L, st, v), True)
  | i :: is, hs, S, v, L, st => match ex1 i (hs.headD 0) S v L st with
    | (r, o) => match exs is (bif tkh i then hs.tail else hs) S r.2.2 r.1 r.2.1 with
      | (r', P) => (r', match o with
        | none => P
        | some q => q ∧ P)
theorem VW.exs (C : cxt p s m args c cc oc E) : ∀ (is : List inr) (hs : List Nat) (pc q : Nat) (L : lo) (st : List Value) (v : vl), sgm cc oc pc is q = true → (exs is hs S v L st).2 →
    VW p l e R s m args below meth c Q E nL n0 z0 q (exs is hs S v L st).1.1 (exs is hs S v L st).1.2.1 S (exs is hs S v L st).1.2.2 → VW p l e R s m args below meth c Q E nL n0 z0 pc L st S v
  | [], hs, pc, q, L, st, v, hs1, _, kk => by
    have : pc = q := of_decide_eq_true hs1
    subst this
    exact kk
  | i :: is, hs, pc, q, L, st, v, hs1, hP, kk => by
    have h1 : (decide (decode cc pc = .ok (i.1, ilen i.1)) && (lkok oc i && (sgm.sgok i.1 pc && sgm cc oc (inx i.1 pc) is q))) = true := hs1
    rw [Bool.and_eq_true, Bool.and_eq_true, Bool.and_eq_true] at h1
    obtain ⟨g1, g2, g3, g4⟩ := h1
    have hP2 : (match (_root_.Jvm.Pilot.@@N@@.ex1 i (hs.headD 0) S v L st).2 with
        | none => (_root_.Jvm.Pilot.@@N@@.exs is (bif tkh i then hs.tail else hs) S (_root_.Jvm.Pilot.@@N@@.ex1 i (hs.headD 0) S v L st).1.2.2 (_root_.Jvm.Pilot.@@N@@.ex1 i (hs.headD 0) S v L st).1.1 (_root_.Jvm.Pilot.@@N@@.ex1 i (hs.headD 0) S v L st).1.2.1).2
        | some q => q ∧ (_root_.Jvm.Pilot.@@N@@.exs is (bif tkh i then hs.tail else hs) S (_root_.Jvm.Pilot.@@N@@.ex1 i (hs.headD 0) S v L st).1.2.2 (_root_.Jvm.Pilot.@@N@@.ex1 i (hs.headD 0) S v L st).1.1 (_root_.Jvm.Pilot.@@N@@.ex1 i (hs.headD 0) S v L st).1.2.1).2) := hP
    refine VW.ex1 C i (hs.headD 0) (of_decide_eq_true g1) g2 (fun o ho => ?_) (fun z hz => ?_) (VW.exs C is (bif tkh i then hs.tail else hs) (inx i.1 pc) q _ _ _ g4 ?_ kk)
    · rw [ho] at g3
      have h3 := of_decide_eq_true g3
      rw [ho]
      exact h3
    · rw [hz] at hP2
      exact hP2.1
    · cases ho : (_root_.Jvm.Pilot.@@N@@.ex1 i (hs.headD 0) S v L st).2 with
      | none => rw [ho] at hP2; exact hP2
      | some z => rw [ho] at hP2; exact hP2.2
end SEG
