/-! Rules that make cells, store references, read statics and texts, copy, throw. The law vy_throw0 is vx_throw0 of the exceptions' laws with the exact size of the heap behind it. -/
section VY
variable {p : Program} {l : Launch} {e : Env} {R : Room} {s : State} {m : MethodId} {args : Array Value} {below : List Frame} {meth : Method} {c : Code} {H : Heap} {locs : List Loc} {cells slots : Nat} {Q : State → Prop}
variable {mc ms : Nat} {free : Addr → Prop} {A0 A1 : Nat → Prop} {H0 : Heap} {a : Array Value} {ls : Array Slot} {st0 rest : List Value}
variable {Qc : Array Value → State → Outcome → State → Prop} {XC : String → State → State → Prop}
theorem vy_throw0 {cc : ByteArray} {pc : Nat} (hexec : p.tables.exec = Jvm.exec) (hb : c.code = cc) (hl : l.stackTraces = false) {own cls : String} {names : List String} {ik ic mc ms : Nat} {A : Nat → Prop}
    (hown : s.vm.findClass own = some m.cls) (hcls : Bundle.fit cls = true) (hnames : ∀ n ∈ names, Bundle.fit n = true)
    (hk : (Cond.classLink own ik cls).before args s = true) (hini : (Cond.initialized cls).before args s = true) (hat : ∀ w ∈ vx_at0 own ic cls names, w.before args s = true)
    (hgood : ∀ w ∈ Cond.classLink own ik cls :: Cond.initialized cls :: vx_at0 own ic cls names, vx_ot w = true)
    (hU : vx_Zq Bundle.tN "UNASSIGNED_STACK" Bundle.steD A s s.heap) (hN : vx_Zq Bundle.tN "SUPPRESSED_SENTINEL" Bundle.listD A s s.heap) (hS : va_S A s.heap H locs) (hsize : ls.size = c.maxLocals)
    (d0 : decode cc pc = .ok (.new ik, 3)) (d3 : decode cc (pc + 3) = .ok (.dup, 1)) (d4 : decode cc (pc + 4) = .ok (.invokespecial ic, 3)) (d7 : decode cc (pc + 7) = .ok (.athrow, 1))
    (hout : ∀ x ∈ c.exceptionTable.toList, covers x (pc + 7) = false)
    (hRframes : names.length + 3 < R.frames) (hRlocals : (rest.map fun v => v.category).sum + (13 * (names.length + 1) + 42) ≤ R.locals) (hRcells : cells + 1 ≤ R.cells) (hRslots : slots + 6 ≤ R.slots) (hlocks : meth.locks = false)
    (hx : ∀ t : State, s.vm.Alike t.vm → t.heap.size = H.size + 1 → (∀ q : Nat, q < H.size → t.heap[q]? = H[q]?) → XC cls s t)
    (hf : ∀ z ∈ locs, free z.base) (hc : cells + 1 ≤ mc) (hs : slots + 6 ≤ ms) :
    W p l e R s m args below meth c H locs cells slots (vx_MQ below Qc XC args s mc ms free) (F0 m pc ls rest) := by
  intro T hT X
  have htr : e.platform.stackTraces = false := (show e.platform.stackTraces = l.stackTraces by rw [X.admits.platform]).trans hl
  have Y := vx_rebase X (R' := { frames := R.frames, locals := R.locals, cells := 1, slots := 6 }) (Nat.le_refl _) (Nat.le_refl _) hRcells hRslots
  obtain ⟨s', hA⟩ : ∃ z, z = (T.setVm s.vm).setFrames (.invoking m args :: below) := ⟨_, rfl⟩
  rw [← hA] at Y
  have hvm : s'.vm = s.vm := by rw [hA]; rfl
  have hhp : s'.heap = H := by rw [hA]; exact hT
  have hW0 : s.WarmedH s'.vm := by rw [hvm]; exact State.WarmedH.refl s
  have hat' : ∀ w ∈ vx_at0 own ic cls names, w.before args s' = true := fun w hw => vx_ot_at hW0 hvm.symm (hgood w (List.mem_cons_of_mem _ (List.mem_cons_of_mem _ hw))) (hat w hw)
  have hk' : (Cond.classLink own ik cls).before args s' = true := vx_ot_at hW0 hvm.symm (hgood _ List.mem_cons_self) hk
  have hini' : (Cond.initialized cls).before args s' = true := vx_ot_at hW0 hvm.symm (hgood _ (List.mem_cons_of_mem _ List.mem_cons_self)) hini
  have hU' : vx_Zq Bundle.tN "UNASSIGNED_STACK" Bundle.steD A s' s'.heap := by rw [hhp]; exact vx_Zq.moved hW0.alike (hU.kept hS.2.1)
  have hN' : vx_Zq Bundle.tN "SUPPRESSED_SENTINEL" Bundle.listD A s' s'.heap := by rw [hhp]; exact vx_Zq.moved hW0.alike (hN.kept hS.2.1)
  have h : ∀ w ∈ Bundle.ownAtoms0 own ic cls names, w.before args s' = true := vx_own hat' (vx_isRefq hU'.1) (vx_isRefq hN'.1) hU'.2.word hN'.2.word
  have hown' : s'.vm.findClass own = some m.cls := by rw [hvm]; exact hown
  have hins : (Cond.instantiable cls 6).before args s' = true := h _ (by simp [Bundle.ownAtoms0])
  obtain ⟨vm₁, cX, kX, hfX, hkX, -, -, X₁, st1⟩ := Y.newCold hexec (own := own) (C := cls) (index := ik) (n := 6) hown' hk' hins hini'
    (g := F0 m pc ls rest) rfl (by rw [hb]; exact d0) (Nat.le_refl _) (Nat.le_refl _)
  generalize hT1 : (T.setVm vm₁).pushCell { cls := cX, slots := kX.instanceTypes.map defaultValue, vm := .none } = T1 at X₁ st1
  have hcat : (Value.ref T.heap.size).category = 1 := rfl
  have hcellA : T1.heap[T.heap.size]? = some (freshCell cX kX) := by rw [← hT1]; exact State.heap_pushCell_size _ _
  have d3' : decode c.code (pc + 3) = .ok (.dup, 1) := by rw [hb]; exact d3
  obtain ⟨U, hsteps, hrun, hend, hW, hsame, ce, hce, hO⟩ := X₁.ctorThrow0 hexec htr (own := own) (cls := cls) (names := names) (ic := ic) hown' hcls hnames h (fun x hx => nomatch hx) hfX hkX hcellA (by rw [hhp, hT]; exact Nat.le_refl _)
    (g := { method := m, pc := pc + 4, locals := ls, stack := .ref T.heap.size :: .ref T.heap.size :: rest, locked := none }) rfl hsize rfl rfl (rest := rest) rfl
    (by rw [hb]; exact d4) (by rw [hb]; exact d7) hout hRframes (by simp only [List.map_cons, List.sum_cons, hcat]; omega) hlocks
  obtain ⟨f1, f2⟩ := vx_frame hsame
  rw [hhp] at f1 f2
  have fsz : U.heap.size = H.size + 1 := by
    have g1 : T.heap.size < U.heap.size := (Array.getElem?_eq_some_iff.mp hce).1
    have g2 : U.heap.size ≤ s'.heap.size + (0 + 1) := hsame.2.2.1
    rw [hhp] at g2
    rw [hT] at g1
    omega
  have hWs : s.WarmedH U.vm := State.WarmedH.trans hW0 hW
  have hcl : s.vm.findClass cls = some ce.cls := by
    have h9 := hO.cls
    rw [hvm] at h9
    exact h9
  have hall : s.sameButNew ({ U with vm := s.vm } : State) locs mc ms := by
    subst hA
    obtain ⟨e1, e2⟩ := hsame
    rw [State.setFrames_setFrames] at e1
    have h2 : (T.setVm s.vm).sameButNew ({ U with vm := s.vm } : State) [] (0 + 1) (0 + 6) := ⟨e1, e2⟩
    have h3 := X.same.trans h2
    rw [List.append_nil] at h3
    exact h3.mono hc hs
  refine ⟨U, ?_, .threw T.heap.size, hrun, hend, Or.inr ⟨T.heap.size, rfl, cls, ce, locs, hx U hWs.alike fsz (fun q hq => f2 q hq (fun z hz => nomatch hz)), hce, hO.vm, hcl, hWs, hall, hf⟩⟩
  refine st1 _ ?_
  show Steps p.tables e below (T1.setTop { method := m, pc := pc + 3, locals := ls, stack := .ref T.heap.size :: rest, locked := none }) _
  jvm_step X₁.here [X₁.here.top, hexec, d3', Value.category]
  exact hsteps
end VY
section HEAPS
variable {B B' : bd} {pc idx : Nat} {L : lo} {st rest As : List Value} {S : shp} {v : vl} {r r' : rs} {a : Nat}
theorem rel.fresh {E : env} {s : State} {H : Heap} (h : rel E S v s H) : kin S (nxt S) = none := by
  cases hk : kin S (nxt S) with
  | none => rfl
  | some k =>
    exfalso
    have hz : H.size = nxt S := h.2.1
    rcases h.2.2.2 _ k hk with ⟨-, -, ⟨-, r, -, cell, h1, -⟩ | ⟨t, -, -, cA, h1, -⟩⟩ | ⟨-, h1, -⟩
    · have := (Array.getElem?_eq_some_iff.mp h1).1; omega
    · have := (Array.getElem?_eq_some_iff.mp h1).1; omega
    · unfold nxt at h1; omega
theorem rel.lt {E : env} {s : State} {H : Heap} {k : kd} {b : Nat} (h : rel E S v s H) (hk : kin S b = some k) : b < H.size := by
  rcases h.2.2.2 _ k hk with ⟨-, -, ⟨-, r, -, cell, h1, -⟩ | ⟨t, -, -, cA, h1, -⟩⟩ | ⟨-, h1, -⟩
  · exact (Array.getElem?_eq_some_iff.mp h1).1
  · exact (Array.getElem?_eq_some_iff.mp h1).1
  · have := h.2.1; omega
theorem rel.skips {E : env} {s : State} {H H1 : Heap} {n : Nat} (h : rel E S v s H) (hz : H1.size = H.size + 1) (ho : ∀ q : Nat, q < H.size → H1[q]? = H[q]?) : rel E (skip S n) v s H1 := by
  refine ⟨h.1, by rw [hz, h.2.1]; show bas S + cn S + 1 = bas S + (cn S + 1); omega, fun q hq => ?_, fun b k hb => ?_⟩
  · have hq' : q < bas S := hq
    rw [ho q (by have := h.2.1; omega)]
    exact h.2.2.1 q hq'
  · have hb' : kin S b = some k := hb
    have hlt := h.lt hb'
    rcases h.2.2.2 b k hb' with ⟨g1, g2, g3⟩ | ⟨g1, g2, g3⟩
    · refine Or.inl ⟨g1, g2, ?_⟩
      rcases g3 with ⟨u1, r, u2, u3⟩ | ⟨t, u1, u2, cA, u3, u4⟩
      · exact Or.inl ⟨u1, r, u2, u3.kept (ho b hlt)⟩
      · exact Or.inr ⟨t, u1, u2, cA, (ho b hlt).trans u3, u4⟩
    · exact Or.inr ⟨g1, g2, g3⟩
theorem rel.grows {E : env} {s : State} {H H1 : Heap} {n : Nat} {k : kd} (h : rel E S v s H) (hk : k.1 < 10) (hz : H1.size = H.size + 1) (ho : ∀ q : Nat, q < H.size → H1[q]? = H[q]?) (hc : cok E (grow S k n) s H1 (zero v (nxt S)) (nxt S) k) : rel E (grow S k n) (zero v (nxt S)) s H1 := by
  have hzz : H.size = nxt S := h.2.1
  refine ⟨h.1, by rw [hz, h.2.1]; show bas S + cn S + 1 = bas S + (cn S + 1); omega, fun q hq => ?_, fun b k' hb => ?_⟩
  · have hq' : q < bas S := hq
    rw [ho q (by have := h.2.1; omega)]
    exact h.2.2.1 q hq'
  · have hb' : (if b = nxt S then some k else S.1 b) = some k' := hb
    by_cases hbn : b = nxt S
    · rw [if_pos hbn] at hb'
      cases hb'
      subst hbn
      exact Or.inl ⟨hk, by show bas S ≤ bas S + cn S; omega, hc⟩
    · rw [if_neg hbn] at hb'
      have hb'' : kin S b = some k' := hb'
      have hlt := h.lt hb''
      have e1 : ∀ j, gi (zero v (nxt S)) b j = gi v b j := fun j => by show (if b = nxt S then 0 else v.1 b j) = v.1 b j; rw [if_neg hbn]
      have e2 : ∀ j, gl (zero v (nxt S)) b j = gl v b j := fun j => by show (if b = nxt S then 0 else v.2 b j) = v.2 b j; rw [if_neg hbn]
      have e3 : ∀ j, gr (grow S k n) b j = gr S b j := fun j => by show (if b = nxt S then none else S.2.1 b j) = S.2.1 b j; rw [if_neg hbn]
      have f1 : ∀ ci, fval (grow S k n) (zero v (nxt S)) ci b = fval S v ci b := fun ci => funext fun j => by unfold fval; rw [e1, e2, e3]
      have f2 : ∀ t, aval (grow S k n) (zero v (nxt S)) t b = aval S v t b := fun t => funext fun j => by unfold aval; rw [e1, e2, e3]
      rcases h.2.2.2 b k' hb'' with ⟨g1, g2, g3⟩ | ⟨g1, g2, g3⟩
      · refine Or.inl ⟨g1, g2, ?_⟩
        rcases g3 with ⟨u1, r, u2, u3⟩ | ⟨t, u1, u2, cA, u3, u4⟩
        · exact Or.inl ⟨u1, r, u2, by rw [f1]; exact u3.kept (ho b hlt)⟩
        · exact Or.inr ⟨t, u1, u2, cA, by rw [f2]; exact (ho b hlt).trans u3, u4⟩
      · refine Or.inr ⟨g1, g2, ?_⟩
        rcases g3 with ⟨t, u1, u2, cell, u3, u4, u5, u6, u7, u8⟩ | ⟨u1, u2, u3, u4⟩
        · exact Or.inl ⟨t, u1, u2, cell, u3, u4, u5, u6, u7, fun j hj => by rw [e1]; exact u8 j hj⟩
        · exact Or.inr ⟨u1, by rw [e3]; exact u2, by rw [e1]; exact u3, u4⟩
/-- new C -/
theorem VB.new {ci : Nat} (hci : ci < 9) (hd : decode (bC B) pc = .ok (.new idx, 3)) (hcl : Cond.classLink (owns (bO B)) idx (fTN ci).2.2 ∈ tb2) (hinst : Cond.instantiable (fTN ci).2.2 (fTN ci).2.1 ∈ tb2) (hini : Cond.initialized (fTN ci).2.2 ∈ tb2)
    (k2 : le2 (grow S (0, ci) (fTN ci).2.1) r.2.1) (kk : VB B (pc + 3) L (.ref (nxt S) :: st) (grow S (0, ci) (fTN ci).2.1) (zero v (nxt S)) r) : VB B pc L st S v r := by
  intro p l e E s m args below meth c n0 z0 mc ms C htb h1 h2 H locs cells slots ls hr hl hf hc hz
  obtain ⟨⟨hx, hb, hown, hts, hK⟩, hC2⟩ := id C
  have a3 : cn S + 1 ≤ cn r.2.1 := k2.2.2.1
  have a4 : cz S + (fTN ci).2.1 ≤ cz r.2.1 := k2.2.2.2.1
  have hKn := hK.1 ci _ (clt_get hci)
  refine W.newcK hx hb hown (hts _ hcl rfl) (hts _ hinst rfl) (hts _ hini rfl) rfl hd (by show cells + 1 ≤ mc; omega) (by show slots + _ ≤ ms; omega) hKn.2.1 (show H.size = nxt S from hr.2.1) fun H1 kC hkC e1 z1 o1 => ?_
  refine kk p l e E s m args below meth c n0 z0 mc ms C (htb.kad rfl) h1 h2 H1 locs _ _ ls (hr.grows (by show 0 < 10; omega) (by rw [z1, hr.2.1]; rfl) (fun q hq => o1 q (by rw [← show H.size = nxt S from hr.2.1]; exact hq)) (Or.inl ⟨rfl, _, clt_get hci, ?_⟩)) hl hf (by show cells + 1 + n0 = cn S + 1; omega) (by show slots + (fTN ci).2.1 + z0 = cz S + (fTN ci).2.1; omega)
  refine (u_born (fty ci) (fun w h => hts w (uws_in hci w h).1 (uws_in hci w h).2) (fun _ h => h) hKn hkC e1 (fty_ok hci)).to (fun j hj => ?_)
  have g1 : gi (zero v (nxt S)) (nxt S) j = 0 := by show (if nxt S = nxt S then 0 else _) = _; rw [if_pos rfl]
  have g2 : gr (grow S (0, ci) (fTN ci).2.1) (nxt S) j = none := by show (if nxt S = nxt S then none else _) = _; rw [if_pos rfl]
  have g3 : gl (zero v (nxt S)) (nxt S) j = 0 := by show (if nxt S = nxt S then 0 else _) = _; rw [if_pos rfl]
  unfold fval
  rw [g1, g2, g3]
  by_cases hR : isR ci j = true
  · rw [if_pos hR]
    unfold isR at hR
    cases hft : fty ci j <;> rw [hft] at hR <;> first | rfl | cases hR
  · rw [if_neg hR]
    by_cases hLL : isL ci j = true
    · rw [if_pos hLL]
      unfold isL at hLL
      cases hft : fty ci j <;> rw [hft] at hLL <;> first | rfl | cases hLL
    rw [if_neg hLL]
    have hp := fty_prim (by cases hh : isR ci j with | true => exact absurd hh hR | false => rfl) (by cases hh : isL ci j with | true => exact absurd hh hLL | false => rfl) hci hj
    obtain ⟨p1, p2, p3, p4, p5⟩ := hp
    cases hft : fty ci j with
    | long => exact absurd hft p1
    | float => exact absurd hft p2
    | double => exact absurd hft p3
    | object n => exact absurd hft (p4 n)
    | array u => exact absurd hft (p5 u)
    | _ => rfl
/-- new rows of ints, bytes or longs -/
def atp : Nat → ArrayType
  | 0 => .int | 1 => .byte | _ => .long
theorem VB.newa {t N : Nat} {n : Int32} (ht : t < 2) (hd : decode (bC B) pc = .ok (.newarray (atp t), 2)) (hn : ¬ n < 0) (hN : n.toNatClampNeg = N) (hb8 : N ≤ 65536)
    (k2 : le2 (grow S (t + 1, N) N) r.2.1) (kk : VB B (pc + 2) L (.ref (nxt S) :: st) (grow S (t + 1, N) N) (zero v (nxt S)) r) : VB B pc L (.int n :: st) S v r := by
  intro p l e E s m args below meth c n0 z0 mc ms C htb h1 h2 H locs cells slots ls hr hl hf hc hz
  obtain ⟨⟨hx, hb, hown, hts, hK⟩, hC2⟩ := id C
  have a3 : cn S + 1 ≤ cn r.2.1 := k2.2.2.1
  have a4 : cz S + N ≤ cz r.2.1 := k2.2.2.2.1
  have hcls : (Cond.arrayClass (newarray.typeOf (atp t))) ∈ tb2 := by
    rcases (show t = 0 ∨ t = 1 by omega) with rfl | rfl <;> decide +kernel
  have hw : newarray.typeOf (atp t) = aty t := by
    rcases (show t = 0 ∨ t = 1 ∨ t = 2 by omega) with rfl | rfl | rfl <;> rfl
  have hby : N * componentBytes (newarray.typeOf (atp t)) ≤ 536870912 := by
    have : componentBytes (newarray.typeOf (atp t)) ≤ 8 := by
      rcases (show t = 0 ∨ t = 1 ∨ t = 2 by omega) with rfl | rfl | rfl <;> decide
    have := Nat.mul_le_mul hb8 this
    omega
  refine va_newaK hx hb (hts _ hcls rfl) rfl hd rfl hn hN hby (by show cells + 1 ≤ mc; omega) (by show slots + N ≤ ms; omega) (show H.size = nxt S from hr.2.1) fun H1 cA e1 z1 o1 hAr hNm => ?_
  refine kk p l e E s m args below meth c n0 z0 mc ms C (htb.kad rfl) h1 h2 H1 locs _ _ ls (hr.grows (by show t + 1 < 10; omega) (by rw [z1, hr.2.1]; rfl) (fun q hq => o1 q (by rw [← show H.size = nxt S from hr.2.1]; exact hq)) (Or.inr ⟨t, rfl, by omega, cA, ?_, by rw [← hw]; exact hAr, ?_⟩)) hl hf (by show cells + 1 + n0 = cn S + 1; omega) (by show slots + N + z0 = cz S + N; omega)
  · rw [e1, hw]
    refine congrArg (fun f => some (arrV cA N f)) (funext fun j => ?_)
    have g1 : gi (zero v (nxt S)) (nxt S) j = 0 := by show (if nxt S = nxt S then 0 else _) = _; rw [if_pos rfl]
    have g2 : gl (zero v (nxt S)) (nxt S) j = 0 := by show (if nxt S = nxt S then 0 else _) = _; rw [if_pos rfl]
    rcases (show t = 0 ∨ t = 1 ∨ t = 2 by omega) with rfl | rfl | rfl
    · show Value.int 0 = .int (gi _ _ j); rw [g1]
    · show Value.int 0 = .int (gi _ _ j); rw [g1]
    · show Value.long 0 = .long (gl _ _ j); rw [g2]
  · rw [hw] at hNm
    rcases (show t = 0 ∨ t = 1 ∨ t = 2 by omega) with rfl | rfl | rfl <;> exact hNm
/-- new rows of references: t: 3, of states; 4, of measurements -/
theorem VB.newq {t N : Nat} {n : Int32} (ht : t = 3 ∨ t = 4) (hd : decode (bC B) pc = .ok (.anewarray idx, 3)) (hcl : Cond.classLink (owns (bO B)) idx (if t = 3 then RX4 else RX1) ∈ tb2) (hn : ¬ n < 0) (hN : n.toNatClampNeg = N) (hb8 : N ≤ 65536)
    (k2 : le2 (grow S (t + 1, N) N) r.2.1) (kk : VB B (pc + 3) L (.ref (nxt S) :: st) (grow S (t + 1, N) N) (zero v (nxt S)) r) : VB B pc L (.int n :: st) S v r := by
  intro p l e E s m args below meth c n0 z0 mc ms C htb h1 h2 H locs cells slots ls hr hl hf hc hz
  obtain ⟨⟨hx, hb, hown, hts, hK⟩, hC2⟩ := id C
  subst hN
  have a3 : cn S + 1 ≤ cn r.2.1 := k2.2.2.1
  have a4 : cz S + n.toNatClampNeg ≤ cz r.2.1 := k2.2.2.2.1
  have hAO : va_AO (if t = 3 then RX4 else RX1) s := by
    rcases ht with rfl | rfl
    · exact htb.2.2.2.2.2.2.2.2.1
    · exact htb.2.2.2.2.2.2.2.2.2
  have hat : aty t = .object (if t = 3 then RX4 else RX1) := by rcases ht with rfl | rfl <;> rfl
  refine W.anew hx hb hown (hts _ hcl rfl) (va_AO.use hAO) rfl hd rfl hn (by omega) (by show cells + 1 ≤ mc; omega) (by show slots + _ ≤ ms; omega) fun cA kA comp f1 f2 f3 f4 => ?_
  generalize hH1 : H.push ({ cls := cA, slots := Array.replicate n.toNatClampNeg .null, vm := .none } : Cell) = H1
  have z1 : H1.size = H.size + 1 := by rw [← hH1, Array.size_push]
  have e1 : H1[H.size]? = some (arrV cA n.toNatClampNeg (fun _ => .null)) := by rw [← hH1, Array.getElem?_push_size, ← arrV_new]
  have o1 : ∀ q : Nat, q < H.size → H1[q]? = H[q]? := fun q hq => by rw [← hH1, Array.getElem?_push, if_neg (Nat.ne_of_lt hq)]
  have hAr : ArrOfT s cA (aty t) := fun N z => ⟨(fun k h => by cases h), kA, f2, comp, by rw [hat]; exact f3⟩
  have hsz : H.size = nxt S := hr.2.1
  rw [hsz]
  refine kk p l e E s m args below meth c n0 z0 mc ms C (htb.kad rfl) h1 h2 H1 locs _ _ ls (hr.grows (by show t + 1 < 10; omega) z1 o1 (Or.inr ⟨t, rfl, by omega, cA, ?_, hAr, ?_⟩)) hl hf (by show cells + 1 + n0 = cn S + 1; omega) (by show slots + n.toNatClampNeg + z0 = cz S + n.toNatClampNeg; omega)
  · rw [← hsz, e1]
    refine congrArg (fun f => some (arrV cA n.toNatClampNeg f)) (funext fun j => ?_)
    have g2 : gr (grow S (t + 1, n.toNatClampNeg) n.toNatClampNeg) (nxt S) j = none := by show (if nxt S = nxt S then none else _) = _; rw [if_pos rfl]
    rcases ht with rfl | rfl
    · show Value.null = va_rf (gr _ _ j); rw [hsz, g2]; rfl
    · show Value.null = va_rf (gr _ _ j); rw [hsz, g2]; rfl
  · rw [hat]
    exact ⟨kA, comp, f2, f3, f4, f1⟩
/-- Object.<init> -/
theorem VB.oinit (hd : decode (bC B) pc = .ok (.invokespecial idx, 3)) (hlk : Cond.methodLink (owns (bO B)) idx Lib.objectInit ∈ tb2) (hL : 1 ≤ bL B) (hW : (st.map fun x => x.category).sum ≤ 8) (kk : VB B (pc + 3) L st S v r) : VB B pc L (.ref a :: st) S v r := by
  intro p l e E s m args below meth c n0 z0 mc ms C htb h1 h2 H locs cells slots ls hr hl hf hc hz
  obtain ⟨⟨hx, hb, hown, hts, hK⟩, hC2⟩ := id C
  exact W.objInit hx hb hown (hts _ hlk rfl) (hts (.instanceMethod Lib.objectInit) (by decide +kernel) rfl) (hts (.code Lib.objectInit ⟨#[0xb1]⟩ 1 none) (by decide +kernel) rfl) rfl (by rw [C.2.2.1]; exact hl.1) rfl hd hL (by
    show 2 * 0 + _ + 12 ≤ 42 * bL B; omega) (kk p l e E s m args below meth c n0 z0 mc ms C htb h1 h2 H locs cells slots ls hr hl hf hc hz)
/-- a store into a field of an int, in a constructor too -/
theorem VB.puti {ci k : Nat} {x : Int32} (hd : decode (bC B) pc = .ok (.putfield idx, 3)) (hq : (idx, ci, k) ∈ ftab (bO B)) (hfin : ((fTN ci).1 k).2.2.2 = false ∨ ((bY B).name = "<init>" ∧ ((fTN ci).1 k).1 = owns (bO B))) (hk : kin S a = some (0, ci)) (hi : isR ci k = false) (hi2 : isL ci k = false) (hp : narrow (fty ci k) (.int x) = .int x ∧ fits (fty ci k) (.int x) = true)
    (kk : VB B (pc + 3) L st S (si v a k x) r) : VB B pc L (.int x :: .ref a :: st) S v r := by
  intro p l e E s m args below meth c n0 z0 mc ms C htb h1 h2
  refine VW.put0 (v1 := si v a k x) (S1 := S) C.1 hd hq (hfin.elim Or.inl (fun h => Or.inr ⟨C.2.2.2.2.1.trans h.1, h.2⟩)) hk hp.1 hp.2 ⟨rfl, rfl⟩ (fun b j hbj => ⟨?_, rfl, rfl⟩) ?_ (kk p l e E s m args below meth c n0 z0 mc ms C htb h1 h2)
  · show up2 v.1 a k x b j = v.1 b j
    unfold up2
    rw [if_neg (fun h => hbj.elim (fun z => z h.1) (fun z => z h.2))]
  · rw [fval_i hi hi2]
    show Value.int (up2 v.1 a k x a k) = _
    unfold up2
    rw [if_pos ⟨rfl, rfl⟩]
/-- a store into a field of a reference -/
theorem VB.putr {ci k : Nat} {x : Nat} (hd : decode (bC B) pc = .ok (.putfield idx, 3)) (hq : (idx, ci, k) ∈ ftab (bO B)) (hfin : ((fTN ci).1 k).2.2.2 = false ∨ ((bY B).name = "<init>" ∧ ((fTN ci).1 k).1 = owns (bO B))) (hk : kin S a = some (0, ci)) (hi : isR ci k = true)
    (kk : VB B (pc + 3) L st (sr S a k (some x)) v r) : VB B pc L (.ref x :: .ref a :: st) S v r := by
  intro p l e E s m args below meth c n0 z0 mc ms C htb h1 h2
  have hp : narrow (fty ci k) (.ref x) = .ref x ∧ fits (fty ci k) (.ref x) = true := by
    unfold isR at hi
    cases hft : fty ci k <;> rw [hft] at hi <;> first | exact ⟨rfl, rfl⟩ | cases hi
  refine VW.put0 (v1 := v) (S1 := sr S a k (some x)) C.1 hd hq (hfin.elim Or.inl (fun h => Or.inr ⟨C.2.2.2.2.1.trans h.1, h.2⟩)) hk hp.1 hp.2 ⟨rfl, rfl⟩ (fun b j hbj => ⟨rfl, rfl, ?_⟩) ?_ (kk p l e E s m args below meth c n0 z0 mc ms C (htb.kad rfl) h1 h2)
  · show up2 S.2.1 a k (some x) b j = S.2.1 b j
    unfold up2
    rw [if_neg (fun h => hbj.elim (fun z => z h.1) (fun z => z h.2))]
  · rw [fval_r hi]
    show va_rf (up2 S.2.1 a k (some x) a k) = _
    unfold up2
    rw [if_pos ⟨rfl, rfl⟩]
    rfl
end HEAPS
