/-! System.arraycopy over our rows of ints and bytes; exceptions caught. -/
def cpy (v : vl) (a0 sp a dp n : Nat) : vl := (fun b k => if b = a ∧ dp ≤ k ∧ k < dp + n then v.1 a0 (sp + (k - dp)) else v.1 b k, v.2)
section COPY
variable {B B' : bd} {pc idx : Nat} {L : lo} {st rest As : List Value} {S : shp} {v : vl} {r r' : rs} {a : Nat}
theorem rel.src {E : env} {s : State} {H : Heap} {a0 t : Nat} (hr : rel E S v s H) (ht : t < 2) (hk0 : kin S a0 = some (t + 1, alen S a0) ∨ kin S a0 = some (t + 11, alen S a0)) :
    ∃ cs : Cell, H[a0]? = some cs ∧ s.isArrayOf cs (aty t) ∧ (∀ k, cs.vm ≠ .statics k) ∧ cs.vm ≠ .unknown ∧ alen S a0 ≤ cs.slots.size ∧ ∀ j, j < alen S a0 → cs.slots[j]? = some (.int (gi v a0 j)) := by
  rcases hk0 with h | h
  · obtain ⟨-, c0, g1, g2, -⟩ := hr.ar h (by omega)
    have hav : aval S v t a0 = fun j => .int (gi v a0 j) := by
      rcases (show t = 0 ∨ t = 1 by omega) with rfl | rfl <;> rfl
    rw [hav] at g1
    exact ⟨_, g1, g2 _ _, (fun _ h => by cases h), (fun h => by cases h), (by rw [arrV_size]; exact Nat.le_refl _), (fun j hj => arrV_read _ _ hj)⟩
  · obtain ⟨cell, g1, g2, g3, g4, -, g6⟩ := hr.ro h ht
    exact ⟨cell, g1, g2, g2.1, g3, g4, g6⟩
theorem VB.copy {a0 t : Nat} {sp dp n : Int32} (ht : t < 2) (hd : decode (bC B) pc = .ok (.invokestatic idx, 3)) (hlk : Cond.methodLink (owns (bO B)) idx arraycopyName ∈ tb2) (hk0 : kin S a0 = some (t + 1, alen S a0) ∨ kin S a0 = some (t + 11, alen S a0)) (hk1 : kin S a = some (t + 1, alen S a))
    (h1 : ¬ sp < 0) (h2 : ¬ dp < 0) (h3 : ¬ n < 0) (h4 : sp.toNatClampNeg + n.toNatClampNeg ≤ alen S a0) (h5 : dp.toNatClampNeg + n.toNatClampNeg ≤ alen S a) (hfit : ∀ i, i < n.toNatClampNeg → fits (aty t) (.int (gi v a0 (sp.toNatClampNeg + i))) = true)
    (hL : 2 ≤ bL B) (hW : (st.map fun x => x.category).sum ≤ 8) (kk : VB B (pc + 3) L st S (cpy v a0 sp.toNatClampNeg a dp.toNatClampNeg n.toNatClampNeg) r) : VB B pc L (.int n :: .int dp :: .ref a :: .int sp :: .ref a0 :: st) S v r := by
  intro p l e E s m args below meth c n0 z0 mc ms C htb q1 q2 H locs cells slots ls hr hl hf hc hz
  obtain ⟨⟨hx, hb, hown, hts, hK⟩, hC2⟩ := id C
  have nn : ∀ z : Int32, ¬ z < 0 → z.toInt = (z.toNatClampNeg : Int) := by
    intro z hz
    have hz0 : (0 : Int) ≤ z.toInt := by
      have := Int32.not_lt.mp hz
      simpa using Int32.le_iff_toInt_le.mp this
    show z.toInt = ((z.toInt.toNat : Nat) : Int)
    omega
  have hprim : refKind (aty t) = false := by
    rcases (show t = 0 ∨ t = 1 by omega) with rfl | rfl <;> rfl
  obtain ⟨cs, hc0, g2, gst, gun, gsz, gsl⟩ := hr.src ht hk0
  obtain ⟨hba, c1, g3, g4, g5⟩ := hr.ar hk1 (by omega)
  have hbE : E.2.size ≤ a := by rw [← hr.1]; exact hba
  have hav : ∀ (w : vl) (b : Nat), aval S w t b = fun j => .int (gi w b j) := by
    intro w b
    rcases (show t = 0 ∨ t = 1 by omega) with rfl | rfl <;> rfl
  rw [hav] at g3
  have hc1 : H[a]? = some (vp_cell c1 (alen S a, .inl (gi v a))) := g3
  obtain ⟨-, k0, hk0', cm0, hkk0⟩ := g2
  obtain ⟨-, k1, hk1', cm1, hkk1⟩ := g4 (alen S a) (fun j => .int (gi v a j))
  intro T hT X
  obtain ⟨vm', X', step⟩ := X.arraycopy hx hown (hts _ hlk rfl) (hts (.native arraycopyName) (by decide +kernel) rfl) (hts (.static arraycopyName) (by decide +kernel) rfl) (hts (.initialized "java/lang/System") (by decide +kernel) rfl) (src := a0) (dst := a) (cs := cs) (cd := vp_cell c1 (alen S a, .inl (gi v a))) (srcPos := sp) (destPos := dp) (n := n) (by rw [hT]; exact hc0) (by rw [hT]; exact hc1)
    gst (fun _ h => by cases h) gun (fun h => by cases h) hk0' hk1' hkk0 hkk1 (by simp [hprim]) h1 h2 h3
    (by rw [nn sp h1, nn n h3]; omega)
    (by rw [nn dp h2, nn n h3]; show ¬ _ > ((arrV c1 (alen S a) (fun j => .int (gi v a j))).slots.size : Int); rw [arrV_size]; omega)
    (fun vm₁ _ i hi => by
      have e : cs.slots.getD (sp.toNatClampNeg + i) .null = .int (gi v a0 (sp.toNatClampNeg + i)) := by
        rw [Array.getD_eq_getD_getElem?, gsl _ (by omega)]
        rfl
      refine ⟨?_, ?_⟩
      · rw [e]
        exact hfit i hi
      · rw [e]
        exact trivial)
    (g := F0 m pc ls (.int n :: .int dp :: .ref a :: .int sp :: .ref a0 :: st)) rfl (by rw [C.2.2.1]; exact hl.1) (rest := st) rfl (by rw [hb]; exact hd) (by show 1 ≤ bL B; omega) (by
      have : nativeFrameWords "java/lang/System" "arraycopy" 5 + 11 ≤ 60 := by decide
      show 2 * 0 + _ + _ ≤ 42 * bL B
      omega)
  have e1 : copied cs (vp_cell c1 (alen S a, .inl (gi v a))) sp dp n = vp_cell c1 (alen S a, .inl (va_cpy (gi v a0) (gi v a) sp.toNatClampNeg dp.toNatClampNeg n.toNatClampNeg)) := va_copiedX (fun z => .int z) cs c1 (gi v a0) (gi v a) gsl h4
  rw [e1] at X' step
  have hlH : a < H.size := (Array.getElem?_eq_some_iff.mp hc1).1
  have hheap : ((T.setVm vm').setCell a (vp_cell c1 (alen S a, .inl (va_cpy (gi v a0) (gi v a) sp.toNatClampNeg dp.toNatClampNeg n.toNatClampNeg)))).heap = H.setIfInBounds a (vp_cell c1 (alen S a, .inl (va_cpy (gi v a0) (gi v a) sp.toNatClampNeg dp.toNatClampNeg n.toNatClampNeg))) := by rw [← hT]; rfl
  have oq : ∀ q : Nat, q ≠ a → (H.setIfInBounds a (vp_cell c1 (alen S a, .inl (va_cpy (gi v a0) (gi v a) sp.toNatClampNeg dp.toNatClampNeg n.toNatClampNeg))))[q]? = H[q]? := fun q hq => by simp [Array.getElem?_setIfInBounds, Ne.symm hq]
  have hrel : rel E S (cpy v a0 sp.toNatClampNeg a dp.toNatClampNeg n.toNatClampNeg) s (H.setIfInBounds a (vp_cell c1 (alen S a, .inl (va_cpy (gi v a0) (gi v a) sp.toNatClampNeg dp.toNatClampNeg n.toNatClampNeg)))) := by
    refine hr.mono hk1 (by show t + 1 < 10; omega) ⟨rfl, rfl⟩ (by simp) oq (fun b j hb => ⟨?_, rfl, rfl⟩) (Or.inr ⟨t, rfl, by omega, c1, ?_, g4, g5⟩)
    · show (if b = a ∧ _ then _ else v.1 b j) = v.1 b j
      rw [if_neg (fun h => hb h.1)]
    · rw [hav]
      refine (show (H.setIfInBounds a (vp_cell c1 (alen S a, .inl (va_cpy (gi v a0) (gi v a) sp.toNatClampNeg dp.toNatClampNeg n.toNatClampNeg))))[a]? = some (arrV c1 (alen S a) (fun j => .int (va_cpy (gi v a0) (gi v a) sp.toNatClampNeg dp.toNatClampNeg n.toNatClampNeg j))) by simp [Array.getElem?_setIfInBounds, hlH]; rfl).trans (congrArg (fun f => some (arrV c1 (alen S a) f)) (funext fun j => ?_))
      show Value.int (va_cpy (gi v a0) (gi v a) _ _ _ j) = .int (if a = a ∧ _ then _ else v.1 a j)
      unfold va_cpy
      by_cases hj : dp.toNatClampNeg ≤ j ∧ j < dp.toNatClampNeg + n.toNatClampNeg
      · rw [if_pos hj, if_pos ⟨rfl, hj⟩]; rfl
      · rw [if_neg hj, if_neg (fun h => hj h.2)]; rfl
  obtain ⟨t2, a1, b1⟩ := kk p l e E s m args below meth c n0 z0 mc ms C htb q1 q2 _ _ cells slots ls hrel hl (fun q hq => by
      rcases List.mem_append.mp hq with h | h
      · exact hf q h
      · obtain ⟨z, -, hz⟩ := List.mem_map.mp h
        rw [← hz]
        exact hbE) hc hz _ hheap X'
  exact ⟨t2, step t2 a1, b1⟩
theorem arrV_congr {cA : ClassId} {N : Nat} {f g : Nat → Value} (h : ∀ j, j < N → f j = g j) : arrV cA N f = arrV cA N g := by
  have e : (fun j : Fin N => f j.val) = fun j => g j.val := funext fun j => h j.val j.isLt
  unfold arrV
  rw [e]
/-- a row of bytes cloned, and cast to its own type -/
theorem VB.clone {ic : Nat} (hd : decode (bC B) pc = .ok (.invokevirtual idx, 3)) (hd2 : decode (bC B) (pc + 3) = .ok (.checkcast ic, 3)) (hlk : Cond.methodLink (owns (bO B)) idx ⟨"[B", "clone", "()Ljava/lang/Object;"⟩ ∈ tb2) (hcl : Cond.classLink (owns (bO B)) ic "[B" ∈ tb2) (hk : kin S a = some (2, alen S a))
    (hL : 1 ≤ bL B) (hW : (st.map fun x => x.category).sum ≤ 8) (hfv : ∀ j, j < alen S a → fits .byte (.int (gi v a j)) = true) (k2 : le2 (grow S (2, alen S a) (alen S a)) r.2.1) (kk : VB B (pc + 6) L (.ref (nxt S) :: st) (grow S (2, alen S a) (alen S a)) (cpy (zero v (nxt S)) a 0 (nxt S) 0 (alen S a)) r) : VB B pc L (.ref a :: st) S v r := by
  intro p l e E s m args below meth c n0 z0 mc ms C htb q1 q2 H locs cells slots ls hr hl hf hc hz
  obtain ⟨⟨hx, hb, hown, hts, hK⟩, hC2⟩ := id C
  have a3 : cn S + 1 ≤ cn r.2.1 := k2.2.2.1
  have a4 : cz S + alen S a ≤ cz r.2.1 := k2.2.2.2.1
  obtain ⟨hba, cA, g1, g2, g3⟩ := hr.ar (t := 1) hk (by omega)
  have hnm : s.vm.findClass "[B" = some cA := g3
  have g1' : H[a]? = some (vp_cell cA (alen S a, .inl (gi v a))) := g1
  obtain ⟨c0, t0', f1, f2, f3⟩ := Cond.castable_spec (va_Nw.use (A := args) rfl (htb.2.1 (.castable "[B" "java/lang/Cloneable") (by decide +kernel)))
  cases hnm.symm.trans f1
  obtain ⟨-, kS, hkS, compS, hkindS⟩ := g2 0 (fun _ => .null)
  have hAK : va_K E.1 clt [(cA, .byte)] s := ⟨hK.1, fun k q hq => by
    have hz : k < 1 := (List.getElem?_eq_some_iff.mp hq).1
    rw [show k = 0 by omega] at hq
    cases hq
    exact ⟨g2, g3⟩⟩
  intro T hT X
  have hcellT : T.heap[a]? = some (vp_cell cA (alen S a, .inl (gi v a))) := by rw [hT]; exact g1'
  obtain ⟨-, kA, hkA, comp, hkind⟩ := State.isArrayOf_alike X.warmed.alike (g2 0 (fun _ => .null))
  obtain ⟨vm', X', st1⟩ := X.cloneArray hx hown (hts _ hlk rfl) (hts (.sameMethod "[B" "java/lang/Object" "clone" "()Ljava/lang/Object;") (by decide +kernel) rfl) (hts (.native ⟨"java/lang/Object", "clone", "()Ljava/lang/Object;"⟩) (by decide +kernel) rfl) (hts (.instanceMethod ⟨"java/lang/Object", "clone", "()Ljava/lang/Object;"⟩) (by decide +kernel) rfl) (hts (.selects "[B" ⟨"[B", "clone", "()Ljava/lang/Object;"⟩ ⟨"java/lang/Object", "clone", "()Ljava/lang/Object;"⟩) (by decide +kernel) rfl)
    (a := a) (cell := vp_cell cA (alen S a, .inl (gi v a))) hcellT (fun k h => by cases h) (fun h => by cases h) hnm f2 f3
    (fun i w hv => by
      have hk' : T.vm.classes[cA]? = some kA := hkA
      have hi : i < alen S a := by
        have := (Array.getElem?_eq_some_iff.mp hv).1
        have e : (vp_cell cA (alen S a, .inl (gi v a))).slots.size = alen S a := arrV_size _ _ _
        omega
      have hv' : (arrV cA (alen S a) (fun j => .int (gi v a j))).slots[i]? = some w := hv
      rw [arrV_read _ _ hi] at hv'
      cases hv'
      show T.fitsSlot cA .none i (.int (gi v a i)) = true
      simpa [State.fitsSlot, State.slotType?, hk', hkind, aty] using hfv i hi)
    (g := F0 m pc ls (.ref a :: st)) rfl (by rw [C.2.2.1]; exact hl.1) rfl (by rw [hb]; exact hd) (by show 1 ≤ bL B; exact hL) (by show 2 * 0 + _ + 14 ≤ 42 * bL B; omega) (by show cells + 1 ≤ mc; omega) (by show slots + (arrV cA (alen S a) (fun j => .int (gi v a j))).slots.size ≤ ms; rw [arrV_size]; omega) (hloader := Vm.clonesLoader_of_array hkS hkindS)
  have hsz : (vp_cell cA (alen S a, .inl (gi v a))).slots.size = alen S a := arrV_size _ _ _
  rw [hsz] at X'
  have hcE : ({ cls := (vp_cell cA (alen S a, .inl (gi v a))).cls, slots := (vp_cell cA (alen S a, .inl (gi v a))).slots } : Cell) = vp_cell cA (alen S a, .inl (gi v a)) := rfl
  rw [hcE] at X' st1
  generalize hH1 : H.push (vp_cell cA (alen S a, .inl (gi v a))) = H1
  have z1 : H1.size = H.size + 1 := by rw [← hH1, Array.size_push]
  have e1 : H1[H.size]? = some (vp_cell cA (alen S a, .inl (gi v a))) := by rw [← hH1, Array.getElem?_push_size]
  have o1 : ∀ q : Nat, q < H.size → H1[q]? = H[q]? := fun q hq => by rw [← hH1, Array.getElem?_push, if_neg (Nat.ne_of_lt hq)]
  have hzz : H.size = nxt S := hr.2.1
  have hne : nxt S ≠ a := by
    have := hr.lt hk
    omega
  have eg : ∀ j, gi (cpy (zero v (nxt S)) a 0 (nxt S) 0 (alen S a)) (nxt S) j = if j < alen S a then gi v a j else 0 := fun j => by
    show (if nxt S = nxt S ∧ 0 ≤ j ∧ j < 0 + alen S a then (if a = nxt S then 0 else v.1 a (0 + (j - 0))) else (if nxt S = nxt S then 0 else v.1 (nxt S) j)) = _
    rw [if_neg (show ¬ a = nxt S from fun h => hne h.symm)]
    by_cases hj : j < alen S a
    · rw [if_pos ⟨rfl, Nat.zero_le _, by omega⟩, if_pos hj]
      show v.1 a _ = v.1 a j
      rw [show 0 + (j - 0) = j by omega]
    · rw [if_neg (fun h => hj (by omega)), if_neg hj, if_pos rfl]
  have hrel : rel E (grow S (2, alen S a) (alen S a)) (cpy (zero v (nxt S)) a 0 (nxt S) 0 (alen S a)) s H1 := by
    have hgz : rel E (grow S (2, alen S a) (alen S a)) (zero v (nxt S)) s (H.push (arrV cA (alen S a) (fun _ => .int 0))) := by
      refine hr.grows (k := (2, alen S a)) (by show 2 < 10; decide) (by rw [Array.size_push]) (fun q hq => by rw [Array.getElem?_push, if_neg (Nat.ne_of_lt hq)]) (Or.inr ⟨1, rfl, by omega, cA, ?_, g2, g3⟩)
      rw [← hzz, Array.getElem?_push_size]
      refine congrArg (fun f => some (arrV cA (alen S a) f)) (funext fun j => ?_)
      show Value.int 0 = .int (if H.size = H.size then 0 else v.1 H.size j)
      rw [if_pos rfl]
    refine hgz.mono (a := nxt S) (ka := (2, alen S a)) (by show (if nxt S = nxt S then some (2, alen S a) else _) = _; rw [if_pos rfl]) (by show 2 < 10; decide) ⟨rfl, rfl⟩ (by rw [z1, Array.size_push]) (fun q hq => ?_) (fun b j hb => ⟨?_, rfl, rfl⟩) (Or.inr ⟨1, rfl, by omega, cA, ?_, g2, g3⟩)
    · rw [← hH1, Array.getElem?_push, Array.getElem?_push, if_neg (by rw [hzz]; exact hq), if_neg (by rw [hzz]; exact hq)]
    · show (if b = nxt S ∧ _ then _ else _) = _
      rw [if_neg (fun h => hb h.1)]
      rfl
    · rw [show H1[nxt S]? = some (vp_cell cA (alen S a, .inl (gi v a))) by rw [← hzz]; exact e1]
      show some (arrV cA (alen S a) (fun j => .int (gi v a j))) = some (arrV cA (alen S a) (fun j => .int (gi (cpy (zero v (nxt S)) a 0 (nxt S) 0 (alen S a)) (nxt S) j)))
      refine congrArg some (arrV_congr (fun j hj => ?_))
      rw [eg, if_pos hj]
  have hP1 : va_P E.1 clt [(nxt S, .inl (cA, (alen S a, .inl (gi v a))))] H1 := fun k q hq => by
    have hz : k < 1 := (List.getElem?_eq_some_iff.mp hq).1
    rw [show k = 0 by omega] at hq
    cases hq
    rw [← hzz]
    exact e1
  obtain ⟨t, b1, b2⟩ := va_castA hx hb hown (hts _ hcl rfl) hP1 0 rfl hnm hd2 (kk p l e E s m args below meth c n0 z0 mc ms C (htb.kad rfl) q1 q2 H1 locs (cells + 1) (slots + alen S a) ls hrel hl hf (by show cells + 1 + n0 = cn S + 1; omega) (by show slots + alen S a + z0 = cz S + alen S a; omega))
    ((T.setVm vm').pushCell (vp_cell cA (alen S a, .inl (gi v a)))) (by rw [← hH1, ← hT]; rfl) X'
  refine ⟨t, st1 t ?_, b2⟩
  rw [hT, hzz]
  exact b1
end COPY
