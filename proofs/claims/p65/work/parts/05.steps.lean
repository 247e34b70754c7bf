/-! One-step laws, and stretches of instructions. -/
section STEPS
variable {p : Program} {l : Launch} {e : Env} {R : Room} {s : State} {m : MethodId} {args : Array Value} {below : List Frame} {meth : Method} {c : Code} {Q : State → Prop}
variable {E : env} {nL n0 z0 : Nat} {cc : ByteArray} {pc : Nat} {L : lo} {st rest : List Value} {S : shp} {v : vl}
/-- a walk from every heap that is as S and v say -/
def VW (p : Program) (l : Launch) (e : Env) (R : Room) (s : State) (m : MethodId) (args : Array Value) (below : List Frame) (meth : Method) (c : Code) (Q : State → Prop) (E : env) (nL n0 z0 : Nat) (pc : Nat) (L : lo) (st : List Value) (S : shp) (v : vl) : Prop :=
  ∀ (H : Heap) (locs : List Loc) (cells slots : Nat) (ls : Array Slot), rel E S v s H → lok ls nL L → (∀ q ∈ locs, E.2.size ≤ q.base) → cells + n0 = cn S → slots + z0 = cz S →
    W p l e R s m args below meth c H locs cells slots Q (F0 m pc ls st)
theorem rel.ob {H : Heap} {a ci : Nat} (h : rel E S v s H) (hk : kin S a = some (0, ci)) : bas S ≤ a ∧ ∃ r, clt[ci]? = some r ∧ t_OB a (E.1.1 ci) r.2.2 (E.1.2 ci) H (fval S v ci a) := by
  rcases h.2.2.2 a _ hk with ⟨-, hb, ⟨-, h1⟩ | ⟨t, h1, -⟩⟩ | ⟨h1, -⟩
  · exact ⟨hb, h1⟩
  · exact absurd h1 (by simp)
  · exact absurd h1 (by simp)
theorem rel.ar {H : Heap} {a t n : Nat} (h : rel E S v s H) (hk : kin S a = some (t + 1, n)) (ht : t < 5) : bas S ≤ a ∧ ∃ cA : ClassId, H[a]? = some (arrV cA n (aval S v t a)) ∧ ArrOfT s cA (aty t) ∧ va_RA s cA (aty t) := by
  rcases h.2.2.2 a _ hk with ⟨-, hb, ⟨h1, -⟩ | ⟨t', h1, -, h2⟩⟩ | ⟨h1, -⟩
  · exact absurd h1 (by simp)
  · have : t' = t := by have : t + 1 = t' + 1 := h1; omega
    subst this
    exact ⟨hb, h2⟩
  · exact absurd (show 10 < t + 1 from h1) (by omega)
theorem rel.ro {H : Heap} {a t n : Nat} (h : rel E S v s H) (hk : kin S a = some (t + 11, n)) (ht : t < 2) : ∃ cell : Cell, H[a]? = some cell ∧ s.isArrayOf cell (aty t) ∧ cell.vm ≠ .unknown ∧ n ≤ cell.slots.size ∧ cell.slots.size.toInt32 = Int32.ofNat n ∧ ∀ j, j < n → cell.slots[j]? = some (.int (gi v a j)) := by
  rcases h.2.2.2 a _ hk with ⟨h1, -⟩ | ⟨-, hb, ⟨t', h1, -, cell, h2, h3⟩ | ⟨h1, -⟩⟩
  · exact absurd (show t + 11 < 10 from h1) (by omega)
  · have : t' = t := by have : t + 11 = t' + 11 := h1; omega
    subst this
    exact ⟨cell, (h.2.2.1 a hb).trans h2, h3⟩
  · exact absurd (show t + 11 = 20 from h1) (by omega)
theorem rel.cs {H : Heap} {a n : Nat} (h : rel E S v s H) (hk : kin S a = some (20, n)) : a < bas S ∧ va_OF "java/lang/String" "value" "[B" (va_rf (gr S a 0)) a (fun q => E.2.size ≤ q) s E.2 ∧ va_OF "java/lang/String" "coder" "B" (.int (gi v a 1)) a (fun q => E.2.size ≤ q) s E.2 ∧ va_O "java/lang/String" a (fun q => E.2.size ≤ q) s E.2 := by
  rcases h.2.2.2 a _ hk with ⟨h1, -⟩ | ⟨-, hb, ⟨t', h1, h9, -⟩ | ⟨-, h1⟩⟩
  · exact absurd (show 20 < 10 from h1) (by omega)
  · exact absurd (show 20 = t' + 11 from h1) (by omega)
  · exact ⟨hb, h1⟩
-- what an instruction does: the locals, the stack, the contents behind it; what it asks (none: nothing)
abbrev xr : Type := (lo × List Value × vl) × Option Prop
def xno (L : lo) (st : List Value) (v : vl) : xr := ((L, st, v), some False)
def xi2 (f : Int32 → Int32 → Int32) (P : Int32 → Int32 → Option Prop) (L : lo) (st : List Value) (v : vl) : xr := match st with
  | .int y :: .int x :: r => ((L, .int (f x y) :: r, v), P x y)
  | _ => xno L st v
def xi1 (f : Int32 → Value) (L : lo) (st : List Value) (v : vl) : xr := match st with
  | .int x :: r => ((L, f x :: r, v), none)
  | _ => xno L st v
def xl2 (f : Int64 → Int64 → Value) (P : Int64 → Int64 → Option Prop) (L : lo) (st : List Value) (v : vl) : xr := match st with
  | .long y :: .long x :: r => ((L, f x y :: r, v), P x y)
  | _ => xno L st v
def xl1 (f : Int64 → Value) (L : lo) (st : List Value) (v : vl) : xr := match st with
  | .long x :: r => ((L, f x :: r, v), none)
  | _ => xno L st v
def xldi (k : Nat) (L : lo) (st : List Value) (v : vl) : xr := match L[k]? with
  | some (some (.int x)) => ((L, .int x :: st, v), none)
  | _ => xno L st v
def xldl (k : Nat) (L : lo) (st : List Value) (v : vl) : xr := match L[k]? with
  | some (some (.long x)) => ((L, .long x :: st, v), none)
  | _ => xno L st v
def xldd (k : Nat) (L : lo) (st : List Value) (v : vl) : xr := match L[k]? with
  | some (some (.double x)) => ((L, .double x :: st, v), none)
  | _ => xno L st v
def xlda (k : Nat) (L : lo) (st : List Value) (v : vl) : xr := match L[k]? with
  | some (some (.ref x)) => ((L, .ref x :: st, v), none)
  | some (some .null) => ((L, .null :: st, v), none)
  | _ => xno L st v
def xsti (k : Nat) (L : lo) (st : List Value) (v : vl) : xr := match st, L[k]? with
  | .int x :: r, some _ => ((lset1 L k (.int x), r, v), none)
  | _, _ => xno L st v
def xsta (k : Nat) (L : lo) (st : List Value) (v : vl) : xr := match st, L[k]? with
  | .ref x :: r, some _ => ((lset1 L k (.ref x), r, v), none)
  | .null :: r, some _ => ((lset1 L k .null, r, v), none)
  | _, _ => xno L st v
def xstl (k : Nat) (L : lo) (st : List Value) (v : vl) : xr := match st, L[k + 1]? with
  | .long x :: r, some _ => ((lset2 L k (.long x), r, v), none)
  | _, _ => xno L st v
def xstd (k : Nat) (L : lo) (st : List Value) (v : vl) : xr := match st, L[k + 1]? with
  | .double x :: r, some _ => ((lset2 L k (.double x), r, v), none)
  | _, _ => xno L st v
def xiinc (k : Nat) (z : Int) (L : lo) (st : List Value) (v : vl) : xr := match L[k]? with
  | some (some (.int x)) => ((lset1 L k (.int (x + J z)), st, v), none)
  | _ => xno L st v
def c1 (x : Value) : Bool := match x with
  | .long _ => false
  | .double _ => false
  | _ => true
def xdup (L : lo) (st : List Value) (v : vl) : xr := match st with
  | x :: r => match c1 x with
    | true => ((L, x :: x :: r, v), none)
    | false => xno L st v
  | _ => xno L st v
def xdup2 (L : lo) (st : List Value) (v : vl) : xr := match st with
  | x :: y :: r => match c1 x, c1 y with
    | true, true => ((L, x :: y :: x :: y :: r, v), none)
    | _, _ => xno L st v
  | _ => xno L st v
def xdupx1 (L : lo) (st : List Value) (v : vl) : xr := match st with
  | x :: y :: r => match c1 x, c1 y with
    | true, true => ((L, x :: y :: x :: r, v), none)
    | _, _ => xno L st v
  | _ => xno L st v
def xpop (L : lo) (st : List Value) (v : vl) : xr := match st with
  | x :: r => match c1 x with
    | true => ((L, r, v), none)
    | false => xno L st v
  | _ => xno L st v
/-- reads of fields: an int's (k: its place), a reference's (h: what it is) -/
def xget (ci k h : Nat) (S : shp) (L : lo) (st : List Value) (v : vl) : xr := match st with
  | .ref a :: r => match isR ci k with
    | true => ((L, .ref h :: r, v), some (kin S a = some (0, ci) ∧ gr S a k = some h))
    | false => match isL ci k with
      | true => ((L, .long (gl v a k) :: r, v), some (kin S a = some (0, ci)))
      | false => ((L, .int (gi v a k) :: r, v), some (kin S a = some (0, ci)))
  | _ => xno L st v
/-- what a field of a type keeps -/
def fok (t : FieldType) (x : Int32) : Option Prop := match t with
  | .int => none
  | _ => some (narrow t (.int x) = .int x ∧ fits t (.int x) = true)
def pand (P : Prop) (o : Option Prop) : Option Prop := match o with
  | none => some P
  | some q => some (P ∧ q)
def xput (ci k : Nat) (S : shp) (L : lo) (st : List Value) (v : vl) : xr := match st with
  | .int x :: .ref a :: r => match isR ci k with
    | true => xno L st v
    | false => match isL ci k with
      | true => xno L st v
      | false => ((L, r, si v a k x), pand (kin S a = some (0, ci)) (fok (fty ci k) x))
  | .long x :: .ref a :: r => match isL ci k with
    | true => ((L, r, sl v a k x), some (kin S a = some (0, ci)))
    | false => xno L st v
  | _ => xno L st v
/-- arrays of ints and bytes (t: 0, 1); of longs; of references -/
def xald (t : Nat) (S : shp) (L : lo) (st : List Value) (v : vl) : xr := match st with
  | .int i :: .ref a :: r => ((L, .int (gi v a i.toNatClampNeg) :: r, v), some ((kin S a = some (t + 1, alen S a) ∨ kin S a = some (t + 11, alen S a)) ∧ vp_in i (alen S a)))
  | _ => xno L st v
def xlald (S : shp) (L : lo) (st : List Value) (v : vl) : xr := match st with
  | .int i :: .ref a :: r => ((L, .long (gl v a i.toNatClampNeg) :: r, v), some (kin S a = some (3, alen S a) ∧ vp_in i (alen S a)))
  | _ => xno L st v
def xast (t : Nat) (S : shp) (L : lo) (st : List Value) (v : vl) : xr := match st with
  | .int x :: .int i :: .ref a :: r => ((L, r, si v a i.toNatClampNeg (if t = 1 then x.toInt8.toInt32 else x)), some (kin S a = some (t + 1, alen S a) ∧ vp_in i (alen S a)))
  | _ => xno L st v
def xlast (S : shp) (L : lo) (st : List Value) (v : vl) : xr := match st with
  | .long x :: .int i :: .ref a :: r => ((L, r, sl v a i.toNatClampNeg x), some (kin S a = some (3, alen S a) ∧ vp_in i (alen S a)))
  | _ => xno L st v
def xaald (h : Nat) (S : shp) (L : lo) (st : List Value) (v : vl) : xr := match st with
  | .int i :: .ref a :: r => ((L, .ref h :: r, v), some ((kin S a = some (4, alen S a) ∨ kin S a = some (5, alen S a)) ∧ vp_in i (alen S a) ∧ gr S a i.toNatClampNeg = some h))
  | _ => xno L st v
def isArr (k : Option kd) : Prop := ∃ t n, k = some (t, n) ∧ ((1 ≤ t ∧ t ≤ 5) ∨ t = 11 ∨ t = 12)
def xalen (S : shp) (L : lo) (st : List Value) (v : vl) : xr := match st with
  | .ref a :: r => ((L, .int (nI (alen S a)) :: r, v), some (isArr (kin S a)))
  | _ => xno L st v
def xddiv (L : lo) (st : List Value) (v : vl) : xr := match st with
  | .double y :: .double x :: r => ((L, .double (FP.ddiv x y) :: r, v), some (vf_n64 (FP.ddiv x y)))
  | _ => xno L st v
def xdcmp (o : CmpOp) (L : lo) (st : List Value) (v : vl) : xr := match st with
  | .double y :: .double x :: r => ((L, .int (Op.cmpValue (FP.dcmp x y) o) :: r, v), none)
  | _ => xno L st v
def xfdiv (L : lo) (st : List Value) (v : vl) : xr := match st with
  | .float y :: .float x :: r => ((L, .float (FP.fdiv x y) :: r, v), some (vf_n32 (FP.fdiv x y)))
  | _ => xno L st v
def xfcmp (o : CmpOp) (L : lo) (st : List Value) (v : vl) : xr := match st with
  | .float y :: .float x :: r => ((L, .int (Op.cmpValue (FP.fcmp x y) o) :: r, v), none)
  | _ => xno L st v
def xf2d (L : lo) (st : List Value) (v : vl) : xr := match st with
  | .float x :: r => ((L, .double (FP.f2d x) :: r, v), some (vf_n64 (FP.f2d x)))
  | _ => xno L st v
def ex1 (i : inr) (h : Nat) (S : shp) (v : vl) (L : lo) (st : List Value) : xr := match i.1 with
  | .aconst_null => ((L, .null :: st, v), none)
  | .iconst _ => ((L, .int (J i.2.2.2) :: st, v), none)
  | .bipush _ => ((L, .int (J i.2.2.2) :: st, v), none)
  | .sipush _ => ((L, .int (J i.2.2.2) :: st, v), none)
  | .ldc _ => ((L, .int (J i.2.2.2) :: st, v), none)
  | .ldc_w _ => ((L, .int (J i.2.2.2) :: st, v), none)
  | .lconst _ => ((L, .long (JL i.2.2.2) :: st, v), none)
  | .ldc2_w _ => ((L, .long (JL i.2.2.2) :: st, v), none)
  | .fconst f => if f = 0 then ((L, .float FP.fconst0 :: st, v), none) else xno L st v
  | .dconst f => if f = 0 then ((L, .double FP.dconst0 :: st, v), none) else xno L st v
  | .iload k => xldi k L st v
  | .iload_n k => xldi k.val L st v
  | .lload k => xldl k L st v
  | .lload_n k => xldl k.val L st v
  | .dload k => xldd k L st v
  | .dload_n k => xldd k.val L st v
  | .aload k => xlda k L st v
  | .aload_n k => xlda k.val L st v
  | .istore k => xsti k L st v
  | .istore_n k => xsti k.val L st v
  | .astore k => xsta k L st v
  | .astore_n k => xsta k.val L st v
  | .lstore k => xstl k L st v
  | .lstore_n k => xstl k.val L st v
  | .dstore k => xstd k L st v
  | .dstore_n k => xstd k.val L st v
  | .iinc k _ => xiinc k i.2.2.2 L st v
  | .iadd => xi2 (fun x y => x + y) (fun _ _ => none) L st v
  | .isub => xi2 (fun x y => x - y) (fun _ _ => none) L st v
  | .imul => xi2 (fun x y => x * y) (fun _ _ => none) L st v
  | .iand => xi2 (fun x y => x &&& y) (fun _ _ => none) L st v
  | .ior => xi2 (fun x y => x ||| y) (fun _ _ => none) L st v
  | .ixor => xi2 (fun x y => x ^^^ y) (fun _ _ => none) L st v
  | .ishl => xi2 (fun x y => x <<< (y &&& 31)) (fun _ _ => none) L st v
  | .ishr => xi2 (fun x y => x >>> (y &&& 31)) (fun _ _ => none) L st v
  | .iushr => xi2 (fun x y => (x.toUInt32 >>> (y.toUInt32 &&& Int32.toUInt32 31)).toInt32) (fun _ _ => none) L st v
  | .idiv => xi2 (fun x y => x / y) (fun _ y => some (¬ y = 0)) L st v
  | .irem => xi2 (fun x y => x - x / y * y) (fun _ y => some (¬ y = 0)) L st v
  | .ineg => xi1 (fun x => .int (-x)) L st v
  | .i2l => xi1 (fun x => .long x.toInt64) L st v
  | .i2b => xi1 (fun x => .int x.toInt8.toInt32) L st v
  | .i2c => xi1 (fun x => .int (x.toUInt32 % 65536).toInt32) L st v
  | .i2f => xi1 (fun x => .float (FP.i2f x)) L st v
  | .i2d => xi1 (fun x => .double (FP.i2d x)) L st v
  | .ladd => xl2 (fun x y => .long (x + y)) (fun _ _ => none) L st v
  | .lsub => xl2 (fun x y => .long (x - y)) (fun _ _ => none) L st v
  | .lmul => xl2 (fun x y => .long (x * y)) (fun _ _ => none) L st v
  | .lxor => xl2 (fun x y => .long (x ^^^ y)) (fun _ _ => none) L st v
  | .ldiv => xl2 (fun x y => .long (x / y)) (fun _ y => some (¬ y = 0)) L st v
  | .lcmp => xl2 (fun x y => .int (lg_cmp x y)) (fun _ _ => none) L st v
  | .l2i => xl1 (fun x => .int x.toInt32) L st v
  | .l2d => xl1 (fun x => .double (FP.l2d x)) L st v
  | .dup => xdup L st v
  | .dup2 => xdup2 L st v
  | .dup_x1 => xdupx1 L st v
  | .pop => xpop L st v
  | .getfield _ => xget i.2.1 i.2.2.1 h S L st v
  | .putfield _ => xput i.2.1 i.2.2.1 S L st v
  | .iaload => xald 0 S L st v
  | .baload => xald 1 S L st v
  | .laload => xlald S L st v
  | .iastore => xast 0 S L st v
  | .bastore => xast 1 S L st v
  | .lastore => xlast S L st v
  | .aaload => xaald h S L st v
  | .arraylength => xalen S L st v
  | .ddiv => xddiv L st v
  | .dcmp o => xdcmp o L st v
  | .fdiv => xfdiv L st v
  | .fcmp o => xfcmp o L st v
  | .f2d => xf2d L st v
  | .goto _ => ((L, st, v), none)
  | _ => xno L st v
/-- lengths of the instructions that a stretch may hold -/
def ilen (i : Instr) : Nat := match i with
  | .bipush _ | .ldc _ | .iload _ | .lload _ | .dload _ | .aload _ | .istore _ | .lstore _ | .dstore _ | .astore _ => 2
  | .sipush _ | .ldc_w _ | .ldc2_w _ | .iinc _ _ | .getfield _ | .putfield _ | .goto _ => 3
  | _ => 1
/-- what it names is what the class's pool says -/
def lkok (oc : Nat) (i : inr) : Bool := match i.1 with
  | .iconst n => decide (Int32.ofInt n = J i.2.2.2)
  | .bipush n => decide ((Int8.ofInt n).toInt32 = J i.2.2.2)
  | .sipush n => decide ((Int16.ofInt n).toInt32 = J i.2.2.2)
  | .ldc n => decide ((n, i.2.2.2) ∈ ctab oc)
  | .ldc_w n => decide ((n, i.2.2.2) ∈ ctab oc)
  | .lconst n => decide (Int64.ofNat (n : Nat) = JL i.2.2.2)
  | .ldc2_w n => decide ((n, i.2.2.2) ∈ cltab oc)
  | .iinc _ n => decide (n = i.2.2.2)
  | .getfield n => decide ((n, i.2.1, i.2.2.1) ∈ ftab oc)
  | .putfield n => decide ((n, i.2.1, i.2.2.1) ∈ ftab oc) && decide (((fTN i.2.1).1 i.2.2.1).2.2.2 = false)
  | _ => true
def inx (i : Instr) (pc : Nat) : Nat := match i with
  | .goto o => ((pc : Int) + o).toNat
  | i => pc + ilen i
end STEPS
