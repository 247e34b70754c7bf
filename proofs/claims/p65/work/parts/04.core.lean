/-! A small machine of our own over the kit's walks: shapes (which cells there are), contents (what they hold), and one-step laws of it. -/
abbrev kd : Type := Nat × Nat
/-- kinds by address; what reference fields and rows hold; the constants' addresses; the first address of ours; how many cells, and slots, were made -/
abbrev shp : Type := (Nat → Option kd) × (Nat → Nat → Option Nat) × (Nat → Nat) × Nat × Nat × Nat
/-- contents: ints and longs -/
abbrev vl : Type := (Nat → Nat → Int32) × (Nat → Nat → Int64)
abbrev lo : Type := List (Option Value)
/-- an instruction with what it names, resolved -/
abbrev inr : Type := Instr × Nat × Nat × Int
def J (z : Int) : Int32 := Int32.ofInt z
def JL (z : Int) : Int64 := Int64.ofInt z
def kin (S : shp) (a : Nat) : Option kd := S.1 a
def gr (S : shp) (a k : Nat) : Option Nat := S.2.1 a k
def kad (S : shp) (j : Nat) : Nat := S.2.2.1 j
def bas (S : shp) : Nat := S.2.2.2.1
def cn (S : shp) : Nat := S.2.2.2.2.1
def cz (S : shp) : Nat := S.2.2.2.2.2
def gi (v : vl) (a k : Nat) : Int32 := v.1 a k
def gl (v : vl) (a k : Nat) : Int64 := v.2 a k
def up2 {α : Type} (f : Nat → Nat → α) (a k : Nat) (x : α) : Nat → Nat → α := fun a' k' => if a' = a ∧ k' = k then x else f a' k'
def si (v : vl) (a k : Nat) (x : Int32) : vl := (up2 v.1 a k x, v.2)
def sl (v : vl) (a k : Nat) (x : Int64) : vl := (v.1, up2 v.2 a k x)
def sr (S : shp) (a k : Nat) (x : Option Nat) : shp := (S.1, up2 S.2.1 a k x, S.2.2)
/-- how long an array is -/
def alen (S : shp) (a : Nat) : Nat := match kin S a with
  | some q => q.2
  | none => 0
/-- a new cell's place -/
def nxt (S : shp) : Nat := bas S + cn S
def grow (S : shp) (k : kd) (n : Nat) : shp := (fun a => if a = nxt S then some k else S.1 a, fun a' k => if a' = nxt S then none else S.2.1 a' k, S.2.2.1, S.2.2.2.1, S.2.2.2.2.1 + 1, S.2.2.2.2.2 + n)
/-- a cell that nobody will ask for: an exception -/
def skip (S : shp) (n : Nat) : shp := (S.1, S.2.1, S.2.2.1, S.2.2.2.1, S.2.2.2.2.1 + 1, S.2.2.2.2.2 + n)
def zero (v : vl) (a : Nat) : vl := (fun a' k => if a' = a then 0 else v.1 a' k, fun a' k => if a' = a then 0 else v.2 a' k)
-- the classes of our objects, and the types of their fields
abbrev clt : List vw_C := [(RX0, TX0, 7), (RX1, TX1, 7), (RX2, TX2, 13), (RX3, TX3, 12), (RX4, TX4, 9), (RX5, TX5, 13), (RL, TL, 25), (RJ4, TJ4, 4), (RJ0, TJ0, 4)]
def fty : Nat → Nat → FieldType
  | 0 => tyX0 | 1 => tyX1 | 2 => tyX2 | 3 => tyX3 | 4 => tyX4 | 5 => tyX5 | 6 => tyL | 7 => tyJ4 | _ => tyJ0
def isR (ci k : Nat) : Bool := match fty ci k with
  | .object _ => true
  | .array _ => true
  | _ => false
def isL (ci k : Nat) : Bool := match fty ci k with
  | .long => true
  | _ => false
def fval (S : shp) (v : vl) (ci a k : Nat) : Value := if isR ci k then va_rf (gr S a k) else if isL ci k then .long (gl v a k) else .int (gi v a k)
def aty : Nat → FieldType
  | 0 => .int | 1 => .byte | 2 => .long | 3 => .object RX4 | _ => .object RX1
def aval (S : shp) (v : vl) (t a j : Nat) : Value := match t with
  | 0 => .int (gi v a j) | 1 => .int (gi v a j) | 2 => .long (gl v a j) | _ => va_rf (gr S a j)
/-- where the constants' classes and slots are, and the heap at the start -/
abbrev env : Type := va_G × Heap
def cok (E : env) (S : shp) (s : State) (H : Heap) (v : vl) (a : Nat) (k : kd) : Prop :=
  (k.1 = 0 ∧ ∃ r, clt[k.2]? = some r ∧ t_OB a (E.1.1 k.2) r.2.2 (E.1.2 k.2) H (fval S v k.2 a)) ∨
  (∃ t, k.1 = t + 1 ∧ t < 5 ∧ ∃ cA : ClassId, H[a]? = some (arrV cA k.2 (aval S v t a)) ∧ ArrOfT s cA (aty t) ∧ va_RA s cA (aty t))
/-- what is read alone: arrays of ints and bytes that were there at the start; constant texts -/
def rok (E : env) (S : shp) (s : State) (v : vl) (a : Nat) (k : kd) : Prop :=
  (∃ t, k.1 = t + 11 ∧ t < 2 ∧ ∃ cell : Cell, E.2[a]? = some cell ∧ s.isArrayOf cell (aty t) ∧ cell.vm ≠ .unknown ∧ k.2 ≤ cell.slots.size ∧ cell.slots.size.toInt32 = Int32.ofNat k.2 ∧ ∀ j, j < k.2 → cell.slots[j]? = some (.int (gi v a j))) ∨
  (k.1 = 20 ∧ va_OF "java/lang/String" "value" "[B" (va_rf (gr S a 0)) a (fun q => E.2.size ≤ q) s E.2 ∧ va_OF "java/lang/String" "coder" "B" (.int (gi v a 1)) a (fun q => E.2.size ≤ q) s E.2 ∧ va_O "java/lang/String" a (fun q => E.2.size ≤ q) s E.2)
/-- the state's heap is what shapes and contents say -/
def rel (E : env) (S : shp) (v : vl) (s : State) (H : Heap) : Prop :=
  bas S = E.2.size ∧ H.size = bas S + cn S ∧ (∀ q : Nat, q < bas S → H[q]? = E.2[q]?) ∧
  ∀ a k, kin S a = some k → (k.1 < 10 ∧ bas S ≤ a ∧ cok E S s H v a k) ∨ (10 < k.1 ∧ a < bas S ∧ rok E S s v a k)
-- locals
def lok (ls : Array Slot) (nL : Nat) (L : lo) : Prop := ls.size = nL ∧ lv_wf ls ∧ L.length ≤ nL ∧ ∀ (i : Nat) (x : Value), L[i]? = some (some x) → ls[i]? = some (.val x)
def lasc (L : lo) : List (Nat × Value) := (List.range L.length).filterMap (fun i => (L[i]?.join).map (fun x => (i, x)))
theorem lasc_mem {L : lo} {i : Nat} {x : Value} : (i, x) ∈ lasc L ↔ L[i]? = some (some x) := by
  unfold lasc
  rw [List.mem_filterMap]
  constructor
  · rintro ⟨j, hj, h⟩
    cases hL : L[j]? with
    | none => rw [hL] at h; cases h
    | some o =>
      cases o with
      | none => rw [hL] at h; cases h
      | some y => rw [hL] at h; cases h; exact hL
  · intro h
    have hl : i < L.length := (List.getElem?_eq_some_iff.mp h).1
    exact ⟨i, List.mem_range.mpr hl, by rw [h]; rfl⟩
theorem lok.has {ls : Array Slot} {nL : Nat} {L : lo} (h : lok ls nL L) : lv_has ls nL (lasc L) := ⟨h.1, h.2.1, fun q hq => h.2.2.2 q.1 q.2 (lasc_mem.mp hq)⟩
def lclr (L : lo) (i : Nat) : lo := match i with
  | 0 => L
  | j + 1 => match L[j]? with
    | some (some x) => if x.category = 2 then L.set j none else L
    | _ => L
def lset1 (L : lo) (i : Nat) (x : Value) : lo := (lclr L i).set i (some x)
def lset2 (L : lo) (i : Nat) (x : Value) : lo := ((lclr L i).set i (some x)).set (i + 1) none
theorem lclr_len (L : lo) (i : Nat) : (lclr L i).length = L.length := by
  unfold lclr
  split
  · rfl
  · split
    · split <;> simp
    · rfl
theorem lclr_get {L : lo} {i j : Nat} {x : Value} (h : (lclr L i)[j]? = some (some x)) : L[j]? = some (some x) ∧ ¬ (j + 1 = i ∧ x.category = 2) := by
  unfold lclr at h
  split at h
  · exact ⟨h, fun q => by omega⟩
  · rename_i k
    split at h
    · rename_i y hy
      split at h
      · rename_i hc
        by_cases hjk : j = k
        · subst hjk
          have hl : j < L.length := (List.getElem?_eq_some_iff.mp hy).1
          rw [List.getElem?_set_self hl] at h
          cases h
        · rw [List.getElem?_set_ne (fun q => hjk q.symm)] at h
          exact ⟨h, fun q => hjk (by omega)⟩
      · rename_i hc
        refine ⟨h, fun q => ?_⟩
        have : j = k := by omega
        subst this
        rw [hy] at h
        cases h
        exact hc q.2
    · rename_i hn
      refine ⟨h, fun q => ?_⟩
      have : j = k := by omega
      subst this
      exact hn x h
theorem lok.set1 {ls ls' : Array Slot} {nL i : Nat} {L : lo} {x : Value} (h : lok ls nL L) (h' : lv_has ls' nL ((i, x) :: (lasc L).filter (fun q => !(q.1 == i) && !(q.1 + 1 == i && q.2.category == 2)))) : lok ls' nL (lset1 L i x) := by
  refine ⟨h'.1, h'.2.1, by unfold lset1; rw [List.length_set, lclr_len]; exact h.2.2.1, fun j y hy => ?_⟩
  unfold lset1 at hy
  by_cases hji : j = i
  · subst hji
    have hl : j < (lclr L j).length := by
      have := (List.getElem?_eq_some_iff.mp hy).1
      rwa [List.length_set] at this
    rw [List.getElem?_set_self hl] at hy
    cases hy
    exact h'.2.2 _ List.mem_cons_self
  · rw [List.getElem?_set_ne (fun q => hji q.symm)] at hy
    obtain ⟨h1, h2⟩ := lclr_get hy
    refine h'.2.2 (j, y) (List.mem_cons_of_mem _ (List.mem_filter.mpr ⟨lasc_mem.mpr h1, ?_⟩))
    simp only [Bool.and_eq_true, Bool.not_eq_true', beq_eq_false_iff_ne, ne_eq, Bool.and_eq_false_iff]
    refine ⟨hji, ?_⟩
    by_cases q1 : j + 1 = i
    · exact Or.inr (fun q2 => h2 ⟨q1, q2⟩)
    · exact Or.inl q1
theorem lok.set2 {ls ls' : Array Slot} {nL i : Nat} {L : lo} {x : Value} (h : lok ls nL L) (h' : lv_has ls' nL ((i, x) :: (lasc L).filter (fun q => !(q.1 == i) && (!(q.1 == i + 1) && !(q.1 + 1 == i && q.2.category == 2))))) : lok ls' nL (lset2 L i x) := by
  refine ⟨h'.1, h'.2.1, by unfold lset2; rw [List.length_set, List.length_set, lclr_len]; exact h.2.2.1, fun j y hy => ?_⟩
  unfold lset2 at hy
  by_cases hj1 : j = i + 1
  · subst hj1
    have hl : i + 1 < ((lclr L i).set i (some x)).length := by
      have := (List.getElem?_eq_some_iff.mp hy).1
      rwa [List.length_set] at this
    rw [List.getElem?_set_self hl] at hy
    cases hy
  · rw [List.getElem?_set_ne (fun q => hj1 q.symm)] at hy
    by_cases hji : j = i
    · subst hji
      have hl : j < (lclr L j).length := by
        have := (List.getElem?_eq_some_iff.mp hy).1
        rwa [List.length_set] at this
      rw [List.getElem?_set_self hl] at hy
      cases hy
      exact h'.2.2 _ List.mem_cons_self
    · rw [List.getElem?_set_ne (fun q => hji q.symm)] at hy
      obtain ⟨h1, h2⟩ := lclr_get hy
      refine h'.2.2 (j, y) (List.mem_cons_of_mem _ (List.mem_filter.mpr ⟨lasc_mem.mpr h1, ?_⟩))
      simp only [Bool.and_eq_true, Bool.not_eq_true', beq_eq_false_iff_ne, ne_eq, Bool.and_eq_false_iff]
      refine ⟨hji, hj1, ?_⟩
      by_cases q1 : j + 1 = i
      · exact Or.inr (fun q2 => h2 ⟨q1, q2⟩)
      · exact Or.inl q1
theorem lok.get {ls : Array Slot} {nL i : Nat} {L : lo} {x : Value} (h : lok ls nL L) (hi : L[i]? = some (some x)) : ls[i]? = some (.val x) := h.2.2.2 i x hi
theorem lok.lt {ls : Array Slot} {nL i : Nat} {L : lo} {o : Option Value} (h : lok ls nL L) (hi : L[i]? = some o) : i < nL := Nat.lt_of_lt_of_le (List.getElem?_eq_some_iff.mp hi).1 h.2.2.1
