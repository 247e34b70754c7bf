/-! System.arraycopy over our rows of ints and bytes; exceptions caught. -/
def cpy (v : vl) (a0 sp a dp n : Nat) : vl := (fun b k => if b = a ∧ dp ≤ k ∧ k < dp + n then v.1 a0 (sp + (k - dp)) else v.1 b k, v.2)
section COPY
variable {B B' : bd} {pc idx : Nat} {L : lo} {st rest As : List Value} {S : shp} {v : vl} {r r' : rs} {a : Nat}
theorem VB.copy {a0 t : Nat} {sp dp n : Int32} (ht : t < 2) (hd : decode (bC B) pc = .ok (.invokestatic idx, 3)) (hlk : Cond.methodLink (owns (bO B)) idx arraycopyName ∈ tb2) (hk0 : kin S a0 = some (t + 1, alen S a0)) (hk1 : kin S a = some (t + 1, alen S a))
    (h1 : ¬ sp < 0) (h2 : ¬ dp < 0) (h3 : ¬ n < 0) (h4 : sp.toNatClampNeg + n.toNatClampNeg ≤ alen S a0) (h5 : dp.toNatClampNeg + n.toNatClampNeg ≤ alen S a) (hfit : ∀ i, i < n.toNatClampNeg → fits (aty t) (.int (gi v a0 (sp.toNatClampNeg + i))) = true)
    (hL : 2 ≤ bL B) (hW : (st.map fun x => x.category).sum ≤ 8) (kk : VB B (pc + 3) L st S (cpy v a0 sp.toNatClampNeg a dp.toNatClampNeg n.toNatClampNeg) r) : VB B pc L (.int n :: .int dp :: .ref a :: .int sp :: .ref a0 :: st) S v r := by
  intro p l e E s m args below meth c n0 z0 mc ms C htb q1 q2 H locs cells slots ls hr hl hf hc hz
  obtain ⟨⟨hx, hb, hown, hts, hK⟩, hC2⟩ := id C
  have nn : ∀ z : Int32, ¬ z < 0 → z.toInt = (z.toNatClampNeg : Int) := by
    intro z hz
    have hz0 : (0 : Int) ≤ z.toInt := by
      have := Int32.not_lt.mp hz
      simpa using Int32.le_iff_toInt_le.mp this
    show z.toInt = ((z.toInt.toNat : Nat) : Int)
    omega
  have hprim : refKind (aty t) = false := by
    rcases (show t = 0 ∨ t = 1 by omega) with rfl | rfl <;> rfl
  obtain ⟨-, c0, g1, g2, -⟩ := hr.ar hk0 (by omega)
  obtain ⟨hba, c1, g3, g4, g5⟩ := hr.ar hk1 (by omega)
  have hbE : E.2.size ≤ a := by rw [← hr.1]; exact hba
  have hav : ∀ (w : vl) (b : Nat), aval S w t b = fun j => .int (gi w b j) := by
    intro w b
    rcases (show t = 0 ∨ t = 1 by omega) with rfl | rfl <;> rfl
  rw [hav] at g1 g3
  have hc0 : H[a0]? = some (vp_cell c0 (alen S a0, .inl (gi v a0))) := g1
  have hc1 : H[a]? = some (vp_cell c1 (alen S a, .inl (gi v a))) := g3
  obtain ⟨-, k0, hk0', cm0, hkk0⟩ := g2 (alen S a0) (fun j => .int (gi v a0 j))
  obtain ⟨-, k1, hk1', cm1, hkk1⟩ := g4 (alen S a) (fun j => .int (gi v a j))
  intro T hT X
  obtain ⟨vm', X', step⟩ := X.arraycopy hx hown (hts _ hlk rfl) (hts (.native arraycopyName) (by decide +kernel) rfl) (hts (.static arraycopyName) (by decide +kernel) rfl) (hts (.initialized "java/lang/System") (by decide +kernel) rfl) (src := a0) (dst := a) (cs := vp_cell c0 (alen S a0, .inl (gi v a0))) (cd := vp_cell c1 (alen S a, .inl (gi v a))) (srcPos := sp) (destPos := dp) (n := n) (by rw [hT]; exact hc0) (by rw [hT]; exact hc1)
    (fun _ h => by cases h) (fun _ h => by cases h) (fun h => by cases h) (fun h => by cases h) hk0' hk1' hkk0 hkk1 (by simp [hprim]) h1 h2 h3
    (by rw [nn sp h1, nn n h3]; show ¬ _ > ((arrV c0 (alen S a0) (fun j => .int (gi v a0 j))).slots.size : Int); rw [arrV_size]; omega)
    (by rw [nn dp h2, nn n h3]; show ¬ _ > ((arrV c1 (alen S a) (fun j => .int (gi v a j))).slots.size : Int); rw [arrV_size]; omega)
    (fun vm₁ _ i hi => by
      have e : (vp_cell c0 (alen S a0, .inl (gi v a0))).slots.getD (sp.toNatClampNeg + i) .null = .int (gi v a0 (sp.toNatClampNeg + i)) := by
        show (arrV c0 (alen S a0) (fun j => .int (gi v a0 j))).slots.getD _ _ = _
        rw [Array.getD_eq_getD_getElem?, arrV_read _ _ (by omega)]
        rfl
      refine ⟨?_, ?_⟩
      · rw [e]
        exact hfit i hi
      · rw [e]
        exact trivial)
    (g := F0 m pc ls (.int n :: .int dp :: .ref a :: .int sp :: .ref a0 :: st)) rfl (by rw [C.2.2.1]; exact hl.1) (rest := st) rfl (by rw [hb]; exact hd) (by show 1 ≤ bL B; omega) (by
      have : nativeFrameWords "java/lang/System" "arraycopy" 5 + 11 ≤ 200 := by decide
      show 2 * 0 + _ + _ ≤ 120 * bL B
      omega)
  have e1 : copied (vp_cell c0 (alen S a0, .inl (gi v a0))) (vp_cell c1 (alen S a, .inl (gi v a))) sp dp n = vp_cell c1 (alen S a, .inl (va_cpy (gi v a0) (gi v a) sp.toNatClampNeg dp.toNatClampNeg n.toNatClampNeg)) := va_copied (fun z => .int z) c0 c1 (gi v a0) (gi v a) h4
  rw [e1] at X' step
  have hlH : a < H.size := (Array.getElem?_eq_some_iff.mp hc1).1
  have hheap : ((T.setVm vm').setCell a (vp_cell c1 (alen S a, .inl (va_cpy (gi v a0) (gi v a) sp.toNatClampNeg dp.toNatClampNeg n.toNatClampNeg)))).heap = H.setIfInBounds a (vp_cell c1 (alen S a, .inl (va_cpy (gi v a0) (gi v a) sp.toNatClampNeg dp.toNatClampNeg n.toNatClampNeg))) := by rw [← hT]; rfl
  have oq : ∀ q : Nat, q ≠ a → (H.setIfInBounds a (vp_cell c1 (alen S a, .inl (va_cpy (gi v a0) (gi v a) sp.toNatClampNeg dp.toNatClampNeg n.toNatClampNeg))))[q]? = H[q]? := fun q hq => by simp [Array.getElem?_setIfInBounds, Ne.symm hq]
  have hrel : rel E S (cpy v a0 sp.toNatClampNeg a dp.toNatClampNeg n.toNatClampNeg) s (H.setIfInBounds a (vp_cell c1 (alen S a, .inl (va_cpy (gi v a0) (gi v a) sp.toNatClampNeg dp.toNatClampNeg n.toNatClampNeg)))) := by
    refine hr.mono hk1 (by show t + 1 < 10; omega) ⟨rfl, rfl⟩ (by simp) oq (fun b j hb => ⟨?_, rfl, rfl⟩) (Or.inr ⟨t, rfl, by omega, c1, ?_, g4, g5⟩)
    · show (if b = a ∧ _ then _ else v.1 b j) = v.1 b j
      rw [if_neg (fun h => hb h.1)]
    · rw [hav]
      refine (show (H.setIfInBounds a (vp_cell c1 (alen S a, .inl (va_cpy (gi v a0) (gi v a) sp.toNatClampNeg dp.toNatClampNeg n.toNatClampNeg))))[a]? = some (arrV c1 (alen S a) (fun j => .int (va_cpy (gi v a0) (gi v a) sp.toNatClampNeg dp.toNatClampNeg n.toNatClampNeg j))) by simp [Array.getElem?_setIfInBounds, hlH]; rfl).trans (congrArg (fun f => some (arrV c1 (alen S a) f)) (funext fun j => ?_))
      show Value.int (va_cpy (gi v a0) (gi v a) _ _ _ j) = .int (if a = a ∧ _ then _ else v.1 a j)
      unfold va_cpy
      by_cases hj : dp.toNatClampNeg ≤ j ∧ j < dp.toNatClampNeg + n.toNatClampNeg
      · rw [if_pos hj, if_pos ⟨rfl, hj⟩]; rfl
      · rw [if_neg hj, if_neg (fun h => hj h.2)]; rfl
  obtain ⟨t2, a1, b1⟩ := kk p l e E s m args below meth c n0 z0 mc ms C htb q1 q2 _ _ cells slots ls hrel hl (fun q hq => by
      rcases List.mem_append.mp hq with h | h
      · exact hf q h
      · obtain ⟨z, -, hz⟩ := List.mem_map.mp h
        rw [← hz]
        exact hbE) hc hz _ hheap X'
  exact ⟨t2, step t2 a1, b1⟩
/-- a call that throws k0, caught here by the handler x: the rows ahead of it don't take it -/
theorem VB.caught {k0 : Nat} {vs : List Value} (k : le2 S r'.2.1) (k2 : le2 r'.2.1 r.2.1) (hx : r'.1 = .inl k0) (hlt : (entL vs).length ≤ bN B') (hB : wfB B') (hcal : VB B' 0 (entB (bN B') vs) [] S v r') (hfit : fitB B B') (run : RunOK B B' pc st rest vs S v r')
    (pre : List ExceptionTableEntry) (x : ExceptionTableEntry) (suf : List ExceptionTableEntry) (hsp : tableOf (bH B) = pre ++ x :: suf) (hpass : ∀ z ∈ pre, z.catchType ≠ 0 ∧ ∃ k1, Cond.classLink (owns (bO B)) z.catchType (exn k1) ∈ tb2 ∧ ((k0 = 0 ∧ k1 = 1) ∨ (k0 = 2 ∧ k1 = 0)))
    (hcov : covers x pc = true) (hct : x.catchType ≠ 0) (hlk : Cond.classLink (owns (bO B)) x.catchType (exn k0) ∈ tb2) (hk4 : k0 < 4) (kk : ∀ q : Nat, VB B x.handlerPc L [.ref q] r'.2.1 r'.2.2 r) : VB B pc L st S v r := by
  intro p l e E s m args below meth c n0 z0 mc ms C htb h1 h2 H locs cells slots ls hr hl hf hc hz
  have a1 : cn S ≤ cn r'.2.1 := k.2.2.1
  have a2 : cz S ≤ cz r'.2.1 := k.2.2.2.1
  have a3 : cn r'.2.1 ≤ cn r.2.1 := k2.2.2.1
  have a4 : cz r'.2.1 ≤ cz r.2.1 := k2.2.2.2.1
  have hM := VB.met (mc := cn r'.2.1 - cn S) (ms := cz r'.2.1 - cz S) (E := E) hB C.2.2.2.2.2.2.1 hlt hcal (by omega) (by omega)
  refine run_thr (run p l e E s m args below meth c mc ms _ _ cells slots H locs ls C htb hr hl.1 hM ⟨by omega, by omega⟩ (fun U hU hW => ⟨rfl, by rw [hU]; exact hr.moved hW.alike, htb.warm hW⟩)) hx hf (fun H1 locs1 q ce hr1 hf1 g1 g2 g3 => ?_)
  obtain ⟨⟨hxx, hb, hown, hts, hK⟩, hC2⟩ := id C
  have hcast : (Cond.castable (exn k0) (exn k0)).before args s = true := by
    refine va_Nw.use rfl (htb.2.1 _ ?_)
    rcases (show k0 = 0 ∨ k0 = 1 ∨ k0 = 2 ∨ k0 = 3 by omega) with rfl | rfl | rfl | rfl <;> decide +kernel
  refine vx_catch hown pre x suf (by rw [C.2.2.2.2.2.1]; exact hsp) (fun z hz => Or.inr ?_) hcov hct (hts _ hlk rfl) hcast g1 g2 g3 (kk q p l e E s m args below meth c n0 z0 mc ms C (htb.kad k.1) h1 h2 H1 locs1 _ _ ls hr1 hl hf1 (by omega) (by omega))
  obtain ⟨z0', k1, hk1, hkk⟩ := hpass z hz
  refine ⟨z0', exn k1, hts _ hk1 rfl, ?_⟩
  rcases hkk with ⟨rfl, rfl⟩ | ⟨rfl, rfl⟩
  · exact htb.2.2.2.2.2.2.2.1.1
  · exact htb.2.2.2.2.2.2.2.1.2
end COPY
