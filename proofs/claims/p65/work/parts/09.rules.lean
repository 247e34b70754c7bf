/-! The rules of walks: stretches, branches, calls, ends. -/
section RULES
variable {B B' : bd} {pc q : Nat} {L : lo} {st rest : List Value} {S S1 : shp} {v v1 : vl} {r r' : rs}
theorem VB.seg (is : List inr) (hs : List Nat) {L' : lo} {st' : List Value} {P : Prop} (h : sgm (bC B) (bO B) pc is q = true) (e : exs is hs S v L st = ((L', st', v1), P)) (hp : P) (k : VB B q L' st' S v1 r) : VB B pc L st S v r := by
  intro p l ev E s m args below meth c n0 z0 mc ms C ht h1 h2
  have e1 : (exs is hs S v L st).1 = (L', st', v1) := by rw [e]
  have e2 : (exs is hs S v L st).2 = P := by rw [e]
  refine VW.exs C.1 is hs pc q L st v h (by rw [e2]; exact hp) ?_
  rw [e1]
  exact k p l ev E s m args below meth c n0 z0 mc ms C ht h1 h2
-- branches
theorem VB.icmp {x y : Int32} {o : Int} {t f : Nat} (cnd : Jvm.ClassFile.Cond) (hd : decode (bC B) pc = .ok (.if_icmp cnd o, 3)) (ht : (pc : Int) + o = (t : Int)) (hf : pc + 3 = f) (P : Prop) (hP : (match cnd with
    | .eq => x = y | .ne => ¬ x = y | .lt => x < y | .ge => x ≥ y | .gt => x > y | .le => x ≤ y) ↔ P) (kt : P → VB B t L st S v r) (kf : ¬ P → VB B f L st S v r) : VB B pc L (.int y :: .int x :: st) S v r := by
  subst hf
  intro p l ev E s m args below meth c n0 z0 mc ms C htb h1 h2 H locs cells slots ls hr hl hf hc hz
  have k1 := fun hp => kt hp p l ev E s m args below meth c n0 z0 mc ms C htb h1 h2 H locs cells slots ls hr hl hf hc hz
  have k2 := fun hp => kf hp p l ev E s m args below meth c n0 z0 mc ms C htb h1 h2 H locs cells slots ls hr hl hf hc hz
  obtain ⟨⟨hx, hb, -⟩, -⟩ := C
  cases cnd with
  | eq => exact lv_icmp_eq hx hb hd ht (fun h => k1 (hP.mp h)) (fun h => k2 (fun g => h (hP.mpr g)))
  | ne => exact lv_icmp_ne hx hb hd ht (fun h => k1 (hP.mp h)) (fun h => k2 (fun g => hP.mpr g h))
  | lt => exact lv_icmp_lt hx hb hd ht (fun h => k1 (hP.mp h)) (fun h => k2 (fun g => h (hP.mpr g)))
  | ge => exact lv_icmp_ge hx hb hd ht (fun h => k1 (hP.mp h)) (fun h => k2 (fun g => h (hP.mpr g)))
  | gt => exact lv_icmp_gt hx hb hd ht (fun h => k1 (hP.mp h)) (fun h => k2 (fun g => h (hP.mpr g)))
  | le => exact lv_icmp_le hx hb hd ht (fun h => k1 (hP.mp h)) (fun h => k2 (fun g => h (hP.mpr g)))
theorem VB.ifc {x : Int32} {o : Int} {t f : Nat} (cnd : Jvm.ClassFile.Cond) (hd : decode (bC B) pc = .ok (.ifCond cnd o, 3)) (ht : (pc : Int) + o = (t : Int)) (hf : pc + 3 = f) (P : Prop) (hP : (match cnd with
    | .eq => x = 0 | .ne => ¬ x = 0 | .lt => x < 0 | .ge => x ≥ 0 | .gt => x > 0 | .le => x ≤ 0) ↔ P) (kt : P → VB B t L st S v r) (kf : ¬ P → VB B f L st S v r) : VB B pc L (.int x :: st) S v r := by
  subst hf
  intro p l ev E s m args below meth c n0 z0 mc ms C htb h1 h2 H locs cells slots ls hr hl hf hc hz
  have k1 := fun hp => kt hp p l ev E s m args below meth c n0 z0 mc ms C htb h1 h2 H locs cells slots ls hr hl hf hc hz
  have k2 := fun hp => kf hp p l ev E s m args below meth c n0 z0 mc ms C htb h1 h2 H locs cells slots ls hr hl hf hc hz
  obtain ⟨⟨hx, hb, -⟩, -⟩ := C
  cases cnd with
  | eq => exact lv_if_eq hx hb hd ht (fun h => k1 (hP.mp h)) (fun h => k2 (fun g => h (hP.mpr g)))
  | ne => exact lv_if_ne hx hb hd ht (fun h => k1 (hP.mp h)) (fun h => k2 (fun g => hP.mpr g h))
  | lt => exact lv_if_lt hx hb hd ht (fun h => k1 (hP.mp h)) (fun h => k2 (fun g => h (hP.mpr g)))
  | ge => exact lv_if_ge hx hb hd ht (fun h => k1 (hP.mp h)) (fun h => k2 (fun g => h (hP.mpr g)))
  | gt => exact lv_if_gt hx hb hd ht (fun h => k1 (hP.mp h)) (fun h => k2 (fun g => h (hP.mpr g)))
  | le => exact lv_if_le hx hb hd ht (fun h => k1 (hP.mp h)) (fun h => k2 (fun g => h (hP.mpr g)))
theorem VB.ifnull {x : Option Nat} {o : Int} {t f : Nat} (hd : decode (bC B) pc = .ok (.ifnull o, 3)) (ht : (pc : Int) + o = (t : Int)) (hf : pc + 3 = f) (kt : x = none → VB B t L st S v r) (kf : ∀ a, x = some a → VB B f L st S v r) : VB B pc L (va_rf x :: st) S v r := by
  subst hf
  intro p l ev E s m args below meth c n0 z0 mc ms C htb h1 h2 H locs cells slots ls hr hl hf hc hz
  cases x with
  | none => exact lv_ifnullN C.1.1 C.1.2.1 hd ht (kt rfl p l ev E s m args below meth c n0 z0 mc ms C htb h1 h2 H locs cells slots ls hr hl hf hc hz)
  | some a => exact lv_ifnull C.1.1 C.1.2.1 hd (kf a rfl p l ev E s m args below meth c n0 z0 mc ms C htb h1 h2 H locs cells slots ls hr hl hf hc hz)
theorem VB.ifnonnull {x : Option Nat} {o : Int} {t f : Nat} (hd : decode (bC B) pc = .ok (.ifnonnull o, 3)) (ht : (pc : Int) + o = (t : Int)) (hf : pc + 3 = f) (kt : ∀ a, x = some a → VB B t L st S v r) (kf : x = none → VB B f L st S v r) : VB B pc L (va_rf x :: st) S v r := by
  subst hf
  intro p l ev E s m args below meth c n0 z0 mc ms C htb h1 h2 H locs cells slots ls hr hl hf hc hz
  cases x with
  | none => exact lv_ifnonnullN C.1.1 C.1.2.1 hd (kf rfl p l ev E s m args below meth c n0 z0 mc ms C htb h1 h2 H locs cells slots ls hr hl hf hc hz)
  | some a => exact lv_ifnonnull C.1.1 C.1.2.1 hd ht (kt a rfl p l ev E s m args below meth c n0 z0 mc ms C htb h1 h2 H locs cells slots ls hr hl hf hc hz)
/-- a switch over consecutive numbers from lo: the places of the offsets -/
theorem VB.table {x : Int32} {df lw hg : Int} {offs : Array Int} {len t : Nat} (hd : decode (bC B) pc = .ok (.tableswitch df lw hg offs, len)) (ht : (pc : Int) + df = (t : Int)) (ko : (x.toInt < lw ∨ hg < x.toInt) → VB B t L st S v r)
    (ki : ∀ (o : Int) (t' : Nat), ¬ x.toInt < lw → ¬ hg < x.toInt → offs[(x.toInt - lw).toNat]? = some o → (pc : Int) + o = (t' : Int) → VB B t' L st S v r)
    (hi : ¬ x.toInt < lw → ¬ hg < x.toInt → ∃ (o : Int) (t' : Nat), offs[(x.toInt - lw).toNat]? = some o ∧ (pc : Int) + o = (t' : Int)) : VB B pc L (.int x :: st) S v r := by
  intro p l ev E s m args below meth c n0 z0 mc ms C htb h1 h2 H locs cells slots ls hr hl hf hc hz
  by_cases h : x.toInt < lw ∨ hg < x.toInt
  · exact lv_tableOut C.1.1 C.1.2.1 hd h ht (ko h p l ev E s m args below meth c n0 z0 mc ms C htb h1 h2 H locs cells slots ls hr hl hf hc hz)
  · have g1 : ¬ x.toInt < lw := fun g => h (Or.inl g)
    have g2 : ¬ hg < x.toInt := fun g => h (Or.inr g)
    obtain ⟨o, t', h3, h4⟩ := hi g1 g2
    exact lv_tableIn C.1.1 C.1.2.1 hd g1 g2 h3 h4 (ki o t' g1 g2 h3 h4 p l ev E s m args below meth c n0 z0 mc ms C htb h1 h2 H locs cells slots ls hr hl hf hc hz)
-- ends
theorem VB.ends (C : ∀ (p : Program) (l : Launch) (e : Env) (E : env) (s : State) (m : MethodId) (args : Array Value) (below : List Frame) (meth : Method) (c : Code) (mc ms : Nat) (H : Heap) (locs : List Loc) (ls : Array Slot), mcx B p l s m args meth c E → (∀ q ∈ locs, E.2.size ≤ q.base) → (∀ t : State, t.heap = H → s.WarmedH t.vm → qc E r args s (.returned (r.1.elim (fun _ => none) id)) t) →
      W p l e (rmB (bL B) mc ms) s m args below meth c H locs mc ms (MQ below (qc E r) args s mc ms (outA E)) (F0 m pc ls st)) (hr1 : ∃ x, r.1 = .inr x) (hS : r.2 = (S, v)) : VB B pc L st S v r := by
  intro p l ev E s m args below meth c n0 z0 mc ms Cx htb h1 h2 H locs cells slots ls hr hl hf hc hz
  obtain ⟨x, hx⟩ := hr1
  have e1 : cells = mc := by rw [hS] at h1; have : mc + n0 = cn S := h1; omega
  have e2 : slots = ms := by rw [hS] at h2; have : ms + z0 = cz S := h2; omega
  subst e1; subst e2
  refine vx_ret (C p l ev E s m args below meth c cells slots H locs ls Cx hf (fun t ht hW => ⟨x, hx, by rw [hx]; rfl, ?_⟩))
  rw [hS, ht]
  exact hr.moved hW.alike
theorem VB.vret (hd : decode (bC B) pc = .ok (.return_, 1)) (hR : bR B = none) : VB B pc L [] S v (.inr none, S, v) :=
  VB.ends (fun p l e E s m args below meth c mc ms H locs ls C hf hq => W.vret C.1.1 C.1.2.1 (C.2.1.trans hR) hq hf hd C.2.2.2.1) ⟨none, rfl⟩ rfl
theorem VB.iret {x : Int32} {ty : FieldType} (hd : decode (bC B) pc = .ok (.ireturn, 1)) (hR : bR B = some ty) (hn : narrow ty (.int x) = .int x) : VB B pc L [.int x] S v (.inr (some (.int x)), S, v) :=
  VB.ends (fun p l e E s m args below meth c mc ms H locs ls C hf hq => W.zret C.1.1 C.1.2.1 (C.2.1.trans hR) hn hq hf hd C.2.2.2.1) ⟨some (.int x), rfl⟩ rfl
theorem VB.aret {x : Option Nat} {ty : FieldType} (hd : decode (bC B) pc = .ok (.areturn, 1)) (hR : bR B = some ty) (hn : (∃ n, ty = .object n) ∨ ∃ t, ty = .array t) : VB B pc L [va_rf x] S v (.inr (some (va_rf x)), S, v) :=
  VB.ends (fun p l e E s m args below meth c mc ms H locs ls C hf hq => W.aret C.1.1 C.1.2.1 (C.2.1.trans hR) hn (by cases x with | none => exact Or.inl rfl | some a => exact Or.inr ⟨a, rfl⟩) hq hf hd C.2.2.2.1) ⟨some (va_rf x), rfl⟩ rfl
theorem VB.dret {x : UInt64} (hd : decode (bC B) pc = .ok (.dreturn, 1)) (hR : bR B = some .double) : VB B pc L [.double x] S v (.inr (some (.double x)), S, v) :=
  VB.ends (fun p l e E s m args below meth c mc ms H locs ls C hf hq => W.dret C.1.1 C.1.2.1 (C.2.1.trans hR) hq hf hd C.2.2.2.1) ⟨some (.double x), rfl⟩ rfl
theorem VB.lret {x : Int64} (hd : decode (bC B) pc = .ok (.lreturn, 1)) (hR : bR B = some .long) : VB B pc L [.long x] S v (.inr (some (.long x)), S, v) :=
  VB.ends (fun p l e E s m args below meth c mc ms H locs ls C hf hq => W.lret C.1.1 C.1.2.1 (C.2.1.trans hR) hq hf hd C.2.2.2.1) ⟨some (.long x), rfl⟩ rfl
theorem VB.fret {x : UInt32} (hd : decode (bC B) pc = .ok (.freturn, 1)) (hR : bR B = some .float) : VB B pc L [.float x] S v (.inr (some (.float x)), S, v) :=
  VB.ends (fun p l e E s m args below meth c mc ms H locs ls C hf hq => W.fret C.1.1 C.1.2.1 (C.2.1.trans hR) hq hf hd C.2.2.2.1) ⟨some (.float x), rfl⟩ rfl
/-- the room of a callee in its caller's -/
def fitB (B B' : bd) : Prop := bL B' + 1 ≤ bL B ∧ bN B' ≤ 23
theorem room_ok {mc ms mc' ms' : Nat} (h : fitB B B') : (rmB (bL B') mc' ms').frames + 1 ≤ (rmB (bL B) mc ms).frames ∧ 8 + (bN B' + 11) + (rmB (bL B') mc' ms').locals ≤ (rmB (bL B) mc ms).locals := by
  obtain ⟨h1, h2⟩ := h
  refine ⟨h1, ?_⟩
  show 8 + (bN B' + 11) + 42 * bL B' ≤ 42 * bL B
  omega
section RUN
variable {p : Program} {l : Launch} {e : Env} {R : Room} {s : State} {m : MethodId} {args : Array Value} {below : List Frame} {meth : Method} {c : Code} {Q : State → Prop} {E : env} {H : Heap} {locs : List Loc} {cells slots mc' ms' : Nat} {ls : Array Slot} {st0 : List Value} {arr : Array Value}
theorem run_ret {x : Option Value} (hrun : vx_Run p l e R s m args below meth c H locs cells slots mc' ms' (F0 m pc ls st0) rest (qc E r' arr) (xc E r') (outA E)) (hx : r'.1 = .inr x) (hf : ∀ q ∈ locs, E.2.size ≤ q.base)
    (k : ∀ (H1 : Heap) (locs1 : List Loc), rel E r'.2.1 r'.2.2 s H1 → (∀ q ∈ locs1, E.2.size ≤ q.base) → W p l e R s m args below meth c H1 locs1 (cells + mc') (slots + ms') Q (F0 m (pc + 3) ls (x.toList ++ rest))) : W p l e R s m args below meth c H locs cells slots Q (F0 m pc ls st0) := by
  intro T hT X
  rcases hrun T hT X with ⟨w, st₀, t, T', L, h0, X', hL, e1, e2, ⟨x', hx', ho, hrel⟩, st⟩ | ⟨q, st₀, t, T', L, En, ce, h0, X', hL, e1, e2, ⟨k', hk', -⟩, -⟩
  · have hxx : x' = x := Sum.inr.inj (hx'.symm.trans hx)
    subst hxx
    cases ho
    have hal : s.vm.Alike t.vm := by rw [← e2]; exact X'.warmed.alike
    obtain ⟨t2, a1, b1⟩ := k T'.heap (locs ++ L) (by rw [e1]; exact hrel.moved hal.symm) (fun q hq => by
      rcases List.mem_append.mp hq with h | h
      · exact hf q h
      · exact hL q h) T' rfl X'
    exact ⟨t2, st t2 a1, b1⟩
  · rw [hx] at hk'; cases hk'
theorem run_thr {k0 : Nat} (hrun : vx_Run p l e R s m args below meth c H locs cells slots mc' ms' (F0 m pc ls st0) rest (qc E r' arr) (xc E r') (outA E)) (hx : r'.1 = .inl k0) (hf : ∀ q ∈ locs, E.2.size ≤ q.base)
    (k : ∀ (H1 : Heap) (locs1 : List Loc) (q : Addr) (ce : Cell), rel E r'.2.1 r'.2.2 s H1 → (∀ q ∈ locs1, E.2.size ≤ q.base) → H1[q]? = some ce → ce.vm = .none → s.vm.findClass (exn k0) = some ce.cls → vx_W p l e R s m args below meth c H1 locs1 (cells + mc') (slots + ms') Q (F0 m pc ls rest) q) : W p l e R s m args below meth c H locs cells slots Q (F0 m pc ls st0) := by
  intro T hT X
  rcases hrun T hT X with ⟨w, st₀, t, T', L, h0, X', hL, e1, e2, ⟨x', hx', -⟩, -⟩ | ⟨q, st₀, t, T', L, En, ce, h0, X', hL, e1, e2, ⟨k', hk', hEn, hrel⟩, hce, hcv, hcl, st⟩
  · rw [hx] at hx'; cases hx'
  · have hkk : k' = k0 := Sum.inl.inj (hk'.symm.trans hx)
    subst hkk
    have hal : s.vm.Alike t.vm := by rw [← e2]; exact X'.warmed.alike
    obtain ⟨t2, a1, b1⟩ := k T'.heap (locs ++ L) q ce (by rw [e1]; exact hrel.moved hal.symm) (fun q hq => by
      rcases List.mem_append.mp hq with h | h
      · exact hf q h
      · exact hL q h) (by rw [e1]; exact hce) hcv (by rw [← hEn]; exact hcl) T' rfl X'
    exact ⟨t2, st.trans a1, b1⟩
end RUN
/-- a call, of whatever kind: kk gives its run -/
theorem VB.call {x : Option Value} {vs : List Value} (k : le2 S r'.2.1) (k2 : le2 r'.2.1 r.2.1) (hx : r'.1 = .inr x) (hlt : (entL vs).length ≤ bN B') (hB : wfB B') (hcal : VB B' 0 (entB (bN B') vs) [] S v r') (hfit : fitB B B')
    (run : ∀ (p : Program) (l : Launch) (e : Env) (E : env) (s : State) (m : MethodId) (args : Array Value) (below : List Frame) (meth : Method) (c : Code) (mc ms mc' ms' cells slots : Nat) (H : Heap) (locs : List Loc) (ls : Array Slot), mcx B p l s m args meth c E → tb E S s → rel E S v s H → ls.size = bN B →
      vx_Met l (bY B') (codeW B' :: WS) (rmB (bL B') mc' ms') (va_Pc vs (fun U => rel E S v U U.heap ∧ tb E S U)) (qc E r') (xc E r') mc' ms' (outA E) → cells + mc' ≤ mc ∧ slots + ms' ≤ ms → (∀ U : State, U.heap = H → s.WarmedH U.vm → (va_Pc vs (fun U => rel E S v U U.heap ∧ tb E S U)) vs.toArray U) →
      vx_Run p l e (rmB (bL B) mc ms) s m args below meth c H locs cells slots mc' ms' (F0 m pc ls st) rest (qc E r' vs.toArray) (xc E r') (outA E))
    (kk : VB B (pc + 3) L (x.toList ++ rest) r'.2.1 r'.2.2 r) : VB B pc L st S v r := by
  intro p l e E s m args below meth c n0 z0 mc ms C htb h1 h2 H locs cells slots ls hr hl hf hc hz
  have a1 : cn S ≤ cn r'.2.1 := k.2.2.1
  have a2 : cz S ≤ cz r'.2.1 := k.2.2.2.1
  have a3 : cn r'.2.1 ≤ cn r.2.1 := k2.2.2.1
  have a4 : cz r'.2.1 ≤ cz r.2.1 := k2.2.2.2.1
  have hM := VB.met (mc := cn r'.2.1 - cn S) (ms := cz r'.2.1 - cz S) (E := E) hB C.2.2.2.2.2.2.1 hlt hcal (by omega) (by omega)
  refine run_ret (run p l e E s m args below meth c mc ms _ _ cells slots H locs ls C htb hr hl.1 hM ⟨by omega, by omega⟩ (fun U hU hW => ⟨rfl, by rw [hU]; exact hr.moved hW.alike, htb.warm hW⟩)) hx hf (fun H1 locs1 hr1 hf1 => ?_)
  exact kk p l e E s m args below meth c n0 z0 mc ms C (htb.kad k.1) h1 h2 H1 locs1 _ _ ls hr1 hl hf1 (by omega) (by omega)
/-- a call that throws; nobody catches here -/
theorem VB.callx {k0 : Nat} {vs : List Value} (k : le2 S r'.2.1) (hx : r'.1 = .inl k0) (hlt : (entL vs).length ≤ bN B') (hB : wfB B') (hcal : VB B' 0 (entB (bN B') vs) [] S v r') (hfit : fitB B B')
    (run : ∀ (p : Program) (l : Launch) (e : Env) (E : env) (s : State) (m : MethodId) (args : Array Value) (below : List Frame) (meth : Method) (c : Code) (mc ms mc' ms' cells slots : Nat) (H : Heap) (locs : List Loc) (ls : Array Slot), mcx B p l s m args meth c E → tb E S s → rel E S v s H → ls.size = bN B →
      vx_Met l (bY B') (codeW B' :: WS) (rmB (bL B') mc' ms') (va_Pc vs (fun U => rel E S v U U.heap ∧ tb E S U)) (qc E r') (xc E r') mc' ms' (outA E) → cells + mc' ≤ mc ∧ slots + ms' ≤ ms → (∀ U : State, U.heap = H → s.WarmedH U.vm → (va_Pc vs (fun U => rel E S v U U.heap ∧ tb E S U)) vs.toArray U) →
      vx_Run p l e (rmB (bL B) mc ms) s m args below meth c H locs cells slots mc' ms' (F0 m pc ls st) rest (qc E r' vs.toArray) (xc E r') (outA E))
    (hH : bH B = []) : VB B pc L st S v r' := by
  intro p l e E s m args below meth c n0 z0 mc ms C htb h1 h2 H locs cells slots ls hr hl hf hc hz
  have a1 : cn S ≤ cn r'.2.1 := k.2.2.1
  have a2 : cz S ≤ cz r'.2.1 := k.2.2.2.1
  have hM := VB.met (mc := cn r'.2.1 - cn S) (ms := cz r'.2.1 - cz S) (E := E) hB C.2.2.2.2.2.2.1 hlt hcal (by omega) (by omega)
  refine run_thr (run p l e E s m args below meth c mc ms _ _ cells slots H locs ls C htb hr hl.1 hM ⟨by omega, by omega⟩ (fun U hU hW => ⟨rfl, by rw [hU]; exact hr.moved hW.alike, htb.warm hW⟩)) hx hf (fun H1 locs1 q ce hr1 hf1 g1 g2 g3 => ?_)
  refine vx_out (fun x hx => ?_) C.2.2.2.1 g1 g2 g3 (fun t ht hW => ⟨k0, hx, rfl, by rw [ht]; exact hr1.moved hW⟩) hf1 (by omega) (by omega)
  rw [C.2.2.2.2.2.1, hH] at hx
  cases hx
end RULES
