/-! Methods: what a body owes, contracts out of it, calls, ends. -/
/-- a body: its name, code, locals, answer's type, handlers, its own class's number, its level (how deep its calls go) -/
abbrev bd : Type := MethodName × ByteArray × Nat × Option FieldType × List (Nat × Nat × Nat × Nat) × Nat × Nat
abbrev bY (B : bd) : MethodName := B.1
abbrev bC (B : bd) : ByteArray := B.2.1
abbrev bN (B : bd) : Nat := B.2.2.1
abbrev bR (B : bd) : Option FieldType := B.2.2.2.1
abbrev bH (B : bd) : List (Nat × Nat × Nat × Nat) := B.2.2.2.2.1
abbrev bO (B : bd) : Nat := B.2.2.2.2.2.1
abbrev bL (B : bd) : Nat := B.2.2.2.2.2.2
def codeW (B : bd) : Cond := match bH B with
  | [] => .code (bY B) (bC B) (bN B) (bR B)
  | hh => .codeWith (bY B) (bC B) (bN B) (bR B) hh
def WS : List Cond := tb2.filter goodWord
theorem WS_mem {w : Cond} (h : w ∈ tb2) (g : goodWord w = true) : w ∈ WS := List.mem_filter.mpr ⟨h, g⟩
theorem WS_of {w : Cond} (h : w ∈ WS) : w ∈ tb2 ∧ goodWord w = true := List.mem_filter.mp h
/-- what ends a body: an exception's number, or what it answers; then the shape and the contents -/
abbrev outc : Type := Nat ⊕ Option Value
abbrev rs : Type := outc × shp × vl
def exn : Nat → String
  | 0 => "java/lang/IllegalArgumentException"
  | 1 => "java/lang/IndexOutOfBoundsException"
  | 2 => "java/lang/IllegalStateException"
  | _ => "java/util/NoSuchElementException"
def rmB (lev mc ms : Nat) : Room := { frames := lev, cells := mc, slots := ms, locals := 42 * lev }
-- words that are no good words: they hold at every state of a walk all the same
def nbw : List Cond := [.castable "[B" "java/lang/Cloneable", .castable (exn 0) (exn 0), .castable (exn 1) (exn 1), .castable (exn 2) (exn 2),
  .methodLinkNest "GateCounter$State" 11 ⟨"GateCounter$Clock", "<init>", "()V"⟩ "GateCounter", .methodLinkNest "GateCounter$SetupText" 120 ⟨"GateCounter", "isPrescale", "(I)Z"⟩ "GateCounter",
  .methodLinkNest "GateCounter$Clock" 33 ⟨"GateCounter", "withinOff", "(I)I"⟩ "GateCounter", .methodLinkNest "GateCounter$Measurement" 34 ⟨"GateCounter", "digitsOf", "(I)I"⟩ "GateCounter",
  .declares ⟨"java/lang/RuntimeException", "<init>", "()V"⟩, .declares ⟨"java/lang/Exception", "<init>", "()V"⟩, .declares ⟨"java/lang/Throwable", "<init>", "()V"⟩]
abbrev outA (E : env) : Nat → Prop := fun q => E.2.size ≤ q
/-- texts that are constants: whose, their pool number, the text, their number among the constants' addresses -/
def strs : List (String × Nat × String × Nat) := [("GateCounter$SetupText", 51, "clock", 10), ("GateCounter$SetupText", 78, "drift", 11), ("GateCounter$SetupText", 83, "age", 12), ("GateCounter$SetupText", 97, "prescale", 13), ("GateCounter$SetupText", 102, "gate", 14), ("GateCounter$SetupText", 107, "periods", 15), ("GateCounter$SetupText", 112, "signal", 16),
  ("GateCounterLaw", 73, "clock ", 17), ("GateCounterLaw", 82, " drift ", 18), ("GateCounterLaw", 84, " age ", 19), ("GateCounterLaw", 86, ";prescale ", 20), ("GateCounterLaw", 88, ";gate ", 21), ("GateCounterLaw", 90, ";periods ", 22), ("GateCounterLaw", 95, "signal ", 23)]
/-- static fields of a known number or row: owner, name, type, value -/
def stat (S : shp) : Nat → String × String × String × Value
  | 0 => ("GateCounter", "PRESCALES", "[I", .ref (kad S 0))
  | 1 => ("java/lang/String", "COMPACT_STRINGS", "Z", .int 1)
  | 2 => ("java/lang/Integer", "DigitTens", "[B", .ref (kad S 1))
  | _ => ("java/lang/Integer", "DigitOnes", "[B", .ref (kad S 2))
def tb (E : env) (S : shp) (s : State) : Prop :=
  va_K E.1 clt [] s ∧ (∀ w ∈ nbw, va_Nw w s) ∧ (∀ k, k < 4 → va_Z (stat S k).1 (stat S k).2.1 (stat S k).2.2.1 (stat S k).2.2.2 (outA E) s E.2) ∧
  va_Zq "jdk/internal/util/Preconditions" "SIOOBE_FORMATTER" "Ljava/util/function/BiFunction;" (outA E) s E.2 ∧
  vx_Zq Bundle.tN "UNASSIGNED_STACK" Bundle.steD (outA E) s E.2 ∧ vx_Zq Bundle.tN "SUPPRESSED_SENTINEL" Bundle.listD (outA E) s E.2 ∧
  (∀ q ∈ strs, vk_R q.1 q.2.1 q.2.2.1 (kad S q.2.2.2) s) ∧
  True ∧ va_AO RX4 s ∧ va_AO RX1 s
theorem rel.moved {E : env} {S : shp} {v : vl} {s t : State} {H : Heap} (hvm : s.vm.Alike t.vm) (h : rel E S v s H) : rel E S v t H := by
  obtain ⟨h1, h2, h3, h4⟩ := h
  refine ⟨h1, h2, h3, fun a k hk => ?_⟩
  rcases h4 a k hk with ⟨g1, g2, g3⟩ | ⟨g1, g2, g3⟩
  · refine Or.inl ⟨g1, g2, ?_⟩
    rcases g3 with ⟨u1, r, u2, u3⟩ | ⟨x, u1, u2, cA, u3, u4, u5⟩
    · exact Or.inl ⟨u1, r, u2, u3⟩
    · exact Or.inr ⟨x, u1, u2, cA, u3, arrOfT_moved hvm u4, u5.moved hvm⟩
  · refine Or.inr ⟨g1, g2, ?_⟩
    rcases g3 with ⟨x, u1, u2, cell, u3, u4, u5⟩ | ⟨u1, u2, u3, u4⟩
    · exact Or.inl ⟨x, u1, u2, cell, u3, State.isArrayOf_alike hvm u4, u5⟩
    · exact Or.inr ⟨u1, u2.moved hvm, u3.moved hvm, u4.moved hvm⟩
theorem tb.warm {E : env} {S : shp} {s U : State} (hW : s.WarmedH U.vm) (h : tb E S s) : tb E S U := by
  obtain ⟨h1, h2, h3, h4, h5, h6, h7, h8, h9, h10⟩ := h
  refine ⟨va_K.moved hW.alike h1, fun w hw => ?_, fun k hk => va_Z.moved hW.alike (h3 k hk), va_Zq.moved hW.alike h4, vx_Zq.moved hW.alike h5, vx_Zq.moved hW.alike h6, fun q hq => vk_R.warm hW (h7 q hq), trivial, h9.moved hW.alike, h10.moved hW.alike⟩
  have g := h2 w hw
  simp only [nbw, List.mem_cons, List.not_mem_nil, or_false] at hw
  rcases hw with rfl | rfl | rfl | rfl | rfl | rfl | rfl | rfl | rfl | rfl | rfl
  · exact va_Nw.warmC hW g
  · exact va_Nw.warmC hW g
  · exact va_Nw.warmC hW g
  · exact va_Nw.warmC hW g
  · exact va_Nw.warmM hW g
  · exact va_Nw.warmM hW g
  · exact va_Nw.warmM hW g
  · exact va_Nw.warmM hW g
  · exact va_Nw.warmD hW g
  · exact va_Nw.warmD hW g
  · exact va_Nw.warmD hW g
theorem tb.kad {E : env} {S S' : shp} {s : State} (hk : kad S' = kad S) (h : tb E S s) : tb E S' s := by
  obtain ⟨h1, h2, h3, h4, h5, h6, h7, h8⟩ := h
  have e : stat S' = stat S := by
    funext k
    match k with
    | 0 => unfold stat; rw [hk]
    | 1 => rfl
    | 2 => unfold stat; rw [hk]
    | n + 3 => unfold stat; rw [hk]
  exact ⟨h1, h2, by rw [e]; exact h3, h4, h5, h6, by rw [hk]; exact h7, h8⟩
def qc (E : env) (r : rs) : Array Value → State → Outcome → State → Prop := fun _ _ o t => ∃ x, r.1 = .inr x ∧ o = .returned x ∧ rel E r.2.1 r.2.2 t t.heap
def xc (E : env) (r : rs) : String → State → State → Prop := fun X _ t => ∃ k, r.1 = .inl k ∧ X = exn k ∧ rel E r.2.1 r.2.2 t t.heap
/-- what a walk of a body knows of its machine -/
def mcx (B : bd) (p : Program) (l : Launch) (s : State) (m : MethodId) (args : Array Value) (meth : Method) (c : Code) (E : env) : Prop :=
  cxt p s m args c (bC B) (bO B) E ∧ meth.sig.returnType = bR B ∧ c.maxLocals = bN B ∧ meth.locks = false ∧ meth.name = (bY B).name ∧ c.exceptionTable.toList = tableOf (bH B) ∧ l.stackTraces = false ∧ E.2.size ≤ s.heap.size ∧ ∀ q : Nat, q < E.2.size → s.heap[q]? = E.2[q]?
/-- a walk of the body B from this point comes to its end r -/
def VB (B : bd) (pc : Nat) (L : lo) (st : List Value) (S : shp) (v : vl) (r : rs) : Prop :=
  ∀ (p : Program) (l : Launch) (e : Env) (E : env) (s : State) (m : MethodId) (args : Array Value) (below : List Frame) (meth : Method) (c : Code) (n0 z0 mc ms : Nat), mcx B p l s m args meth c E → tb E S s → mc + n0 = cn r.2.1 → ms + z0 = cz r.2.1 →
    VW p l e (rmB (bL B) mc ms) s m args below meth c (vx_MQ below (qc E r) (xc E r) args s mc ms (outA E)) E (bN B) n0 z0 pc L st S v
/-- shapes that go on: the constants and the base stay, what is made grows -/
def le2 (S S' : shp) : Prop := kad S' = kad S ∧ bas S' = bas S ∧ cn S ≤ cn S' ∧ cz S ≤ cz S' ∧ ∀ a k, kin S a = some k → kin S' a = some k
theorem le2.rf (S : shp) : le2 S S := ⟨rfl, rfl, Nat.le_refl _, Nat.le_refl _, fun _ _ h => h⟩
theorem le2.tr {S S' S'' : shp} (h : le2 S S') (h' : le2 S' S'') : le2 S S'' := ⟨h'.1.trans h.1, h'.2.1.trans h.2.1, Nat.le_trans h.2.2.1 h'.2.2.1, Nat.le_trans h.2.2.2.1 h'.2.2.2.1, fun a k q => h'.2.2.2.2 a k (h.2.2.2.2 a k q)⟩
/-- a body's own facts: its words stand in the tables -/
def wfB (B : bd) : Prop := (plainFor (bY B) = true ∧ (bH B = [] ∨ plainName (bY B).cls = true)) ∧ owns (bO B) = (bY B).cls ∧ codeW B ∈ tb2 ∧ goodWord (codeW B) = true ∧ Cond.initialized (bY B).cls ∈ tb2 ∧ ((bY B).cls ≠ "java/lang/invoke/MethodHandle" ∧ (bY B).cls ≠ "java/lang/invoke/VarHandle") ∧ bN B ≤ 23
def entL : List Value → lo
  | [] => []
  | x :: xs => match c1 x with
    | true => some x :: entL xs
    | false => some x :: none :: entL xs
def entB (n : Nat) (vs : List Value) : lo := entL vs ++ List.replicate (n - (entL vs).length) none
theorem c1_not {x : Value} (h : c1 x = false) : x.category = 2 := by
  cases x <;> first | rfl | cases h
theorem entL_len : ∀ vs : List Value, (entL vs).length = (lg_sl vs).length
  | [] => rfl
  | x :: xs => by
    have ih := entL_len xs
    unfold entL
    have e : lg_sl (x :: xs) = (if x.category = 2 then [Slot.val x, .second] else [Slot.val x]) ++ lg_sl xs := rfl
    rw [e]
    cases h : c1 x with
    | true =>
      rw [if_neg (by rw [c1_cat h]; decide)]
      simp [ih]
    | false =>
      rw [if_pos (c1_not h)]
      simp [ih]
theorem entL_get : ∀ (vs : List Value) (i : Nat) (x : Value), (entL vs)[i]? = some (some x) → (lg_sl vs)[i]? = some (.val x)
  | [], i, x, h => by simp [entL] at h
  | y :: ys, i, x, h => by
    have ih := entL_get ys
    have e : lg_sl (y :: ys) = (if y.category = 2 then [Slot.val y, .second] else [Slot.val y]) ++ lg_sl ys := rfl
    rw [e]
    unfold entL at h
    cases hc : c1 y with
    | true =>
      rw [hc] at h
      rw [if_neg (by rw [c1_cat hc]; decide)]
      match i with
      | 0 => simp at h; subst h; rfl
      | j + 1 => simp at h ⊢; exact ih j x h
    | false =>
      rw [hc] at h
      rw [if_pos (c1_not hc)]
      match i with
      | 0 => simp at h; subst h; rfl
      | 1 => simp at h
      | j + 2 => simp at h ⊢; exact ih j x h
theorem entB_ok {vs : List Value} {n : Nat} (h : (entL vs).length ≤ n) : lok ((lg_sl vs ++ List.replicate (n - (lg_sl vs).length) Slot.unset).toArray) n (entB n vs) := by
  have h1 := lv_entry vs (n := n) (by rw [← entL_len]; exact h)
  refine ⟨h1.1, h1.2.1, by unfold entB; rw [List.length_append, List.length_replicate]; omega, fun i x hi => ?_⟩
  unfold entB at hi
  have hl := entL_len vs
  rw [List.getElem?_toArray]
  by_cases hlt : i < (entL vs).length
  · rw [List.getElem?_append_left hlt] at hi
    rw [List.getElem?_append_left (by omega)]
    exact entL_get vs i x hi
  · rw [List.getElem?_append_right (by omega), List.getElem?_replicate] at hi
    split at hi <;> cases hi
/-- a body's contract, also of a class that natives override, where no row overrides this method -/
theorem vx_ofWF {l : Launch} {y : MethodName} {ws ws' : List Cond} {rm : Room} {Pc : Array Value → State → Prop} {Qc : Array Value → State → Outcome → State → Prop} {XC : String → State → State → Prop} {mc ms : Nat} {free : Addr → Prop} {cc : ByteArray} {maxL : Nat} {ret : Option FieldType}
    (hy : plainFor y = true) (hw : ws = Cond.code y cc maxL ret :: ws')
    (body : ∀ p e s m args below meth c s₁, BodyLoose p l y (headSpec ws rm) cc maxL ret e s m args below meth c s₁ → c.maxLocals = maxL → (∀ x ∈ c.exceptionTable.toList, False) → Pc args s →
      W p l e (headSpec ws rm).room s m args below meth c s.heap [] 0 0 (vx_MQ below Qc XC args s mc ms free) (entryFrame m args maxL)) : vx_Met l y ws rm Pc Qc XC mc ms free := by
  refine MetFree.of_bodySF (code := cc) (maxLocals := maxL) (ret := ret) hy ?_ ?_
  · intro args s m h hn
    obtain ⟨meth, c, h1, h2, h3, h4, h5, h6, -, -⟩ := Cond.code_spec hn (atoms_spec (ws := ws) h _ (by rw [hw]; exact List.mem_cons_self))
    exact ⟨meth, c, h1, h2, h3, h4, h5, h6⟩
  · intro p e s m args below meth c s₁ B hml hP _
    have hh0 : s₁.heap = s.heap := by rw [B.state]; rfl
    have ht : ∀ x ∈ c.exceptionTable.toList, False := by
      obtain ⟨meth9, c9, h1, h2, -, -, -, -, h7, -⟩ := Cond.code_spec B.named (atoms_spec (ws := ws) B.pre _ (by rw [hw]; exact List.mem_cons_self))
      cases Option.some.inj (h1.symm.trans B.method)
      cases Option.some.inj (h2.symm.trans (Stand.of_body B).code)
      intro x hx
      rw [Array.isEmpty_iff.mp h7] at hx
      cases hx
    obtain ⟨t, a1, o, b1, b2, b3⟩ := body p e s m args below meth c s₁ B hml ht hP s₁ hh0 (Stand.of_body B)
    exact ⟨t, o, a1, b1, b2, b3⟩
/-- a contract, out of a walk from the entry -/
theorem VB.met {B : bd} {vs : List Value} {S : shp} {v : vl} {r : rs} {l : Launch} {E : env} {mc ms : Nat} (hB : wfB B) (hl : l.stackTraces = false) (hn : (entL vs).length ≤ bN B) (h : VB B 0 (entB (bN B) vs) [] S v r) (hmc : mc + cn S = cn r.2.1) (hms : ms + cz S = cz r.2.1) :
    vx_Met l (bY B) (codeW B :: WS) (rmB (bL B) mc ms) (va_Pc vs (fun U => rel E S v U U.heap ∧ tb E S U)) (qc E r) (xc E r) mc ms (outA E) := by
  obtain ⟨w1, w2, w3, w4, w5, w6, w7⟩ := hB
  have body : ∀ p e s m args below meth c s₁, BodyLoose p l (bY B) (headSpec (codeW B :: WS) (rmB (bL B) mc ms)) (bC B) (bN B) (bR B) e s m args below meth c s₁ → c.maxLocals = bN B → c.exceptionTable.toList = tableOf (bH B) → va_Pc vs (fun U => rel E S v U U.heap ∧ tb E S U) args s →
      W p l e (rmB (bL B) mc ms) s m args below meth c s.heap [] 0 0 (vx_MQ below (qc E r) (xc E r) args s mc ms (outA E)) (entryFrame m args (bN B)) := by
    intro p e s m args below meth c s₁ BL hml htab hp
    obtain ⟨rfl, hrel, htb⟩ := hp
    have hts := atoms_spec (ws := codeW B :: WS) BL.pre
    have hown : s.vm.findClass (owns (bO B)) = some m.cls := by rw [w2]; exact findClass_of_methodNamed BL.named
    rw [lg_entry_eq]
    exact h p l e E s m _ below meth c (cn S) (cz S) mc ms ⟨⟨BL.exec, BL.bytes, hown, fun w hw hg => hts w (List.mem_cons_of_mem _ (WS_mem hw hg)), htb.1⟩, BL.returns, hml, BL.notSynchronized, (name_of_methodNamed BL.named BL.method).1, htab, hl, by have := hrel.1; have := hrel.2.1; omega, fun q hq => hrel.2.2.1 q (by rw [hrel.1]; exact hq)⟩ htb hmc hms
      s.heap [] 0 0 _ hrel (entB_ok hn) (fun q hq => by cases hq) (Nat.zero_add _) (Nat.zero_add _)
  cases hh : bH B with
  | nil =>
    have hw : codeW B = .code (bY B) (bC B) (bN B) (bR B) := by unfold codeW; rw [hh]
    refine vx_ofWF (cc := bC B) (maxL := bN B) (ret := bR B) (ws' := WS) w1.1 (by rw [hw]) (fun p e s m args below meth c s₁ BL hml ht hp => body p e s m args below meth c s₁ BL hml ?_ hp)
    rw [hh]
    cases hx : c.exceptionTable.toList with
    | nil => rfl
    | cons x xs => exact (ht x (by rw [hx]; exact List.mem_cons_self)).elim
  | cons x xs =>
    have hw : codeW B = .codeWith (bY B) (bC B) (bN B) (bR B) (x :: xs) := by unfold codeW; rw [hh]
    refine vx_ofWH (cc := bC B) (maxL := bN B) (ret := bR B) (hh := x :: xs) (ws' := WS) (w1.2.resolve_left (by rw [hh]; exact List.cons_ne_nil _ _)) (by rw [hw]) (fun p e s m args below meth c s₁ BL hml hp => body p e s m args below meth c s₁ BL hml ?_ hp)
    rw [hh]
    refine vx_table (x := bY B) BL (atoms_spec (ws := codeW B :: WS) BL.pre (.codeWith (bY B) (bC B) (bN B) (bR B) (x :: xs)) ?_)
    rw [hw]
    exact List.mem_cons_self
