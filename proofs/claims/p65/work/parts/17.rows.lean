/-! Rows of calls, by the callee's kind: r reads alone; p changes contents; g makes cells or changes references; x, y, z: the same, and may throw. -/
def ρri (S : shp) (v : vl) : Int32 → rs := fun x => (.inr (some (.int x)), S, v)
def ρxi (S : shp) (v : vl) : Nat ⊕ Int32 → rs := fun q => match q with | .inl k => (.inl k, skip S 6, v) | .inr x => (.inr (some (.int x)), S, v)
def ρpi (S : shp) : Int32 × vl → rs := fun q => match q with | (x, w) => (.inr (some (.int x)), S, w)
def ρyi (S : shp) (v : vl) : Nat ⊕ (Int32 × vl) → rs := fun q => match q with | .inl k => (.inl k, skip S 6, v) | .inr (x, w) => (.inr (some (.int x)), S, w)
def ρgi : Int32 × shp × vl → rs := fun q => match q with | (x, T, w) => (.inr (some (.int x)), T, w)
def ρzi (S : shp) (v : vl) : Nat ⊕ (Int32 × shp × vl) → rs := fun q => match q with | .inl k => (.inl k, skip S 6, v) | .inr (x, T, w) => (.inr (some (.int x)), T, w)
def ρrq (S : shp) (v : vl) : (Option Nat) → rs := fun x => (.inr (some (va_rf x)), S, v)
def ρxq (S : shp) (v : vl) : Nat ⊕ (Option Nat) → rs := fun q => match q with | .inl k => (.inl k, skip S 6, v) | .inr x => (.inr (some (va_rf x)), S, v)
def ρpq (S : shp) : (Option Nat) × vl → rs := fun q => match q with | (x, w) => (.inr (some (va_rf x)), S, w)
def ρyq (S : shp) (v : vl) : Nat ⊕ ((Option Nat) × vl) → rs := fun q => match q with | .inl k => (.inl k, skip S 6, v) | .inr (x, w) => (.inr (some (va_rf x)), S, w)
def ρgq : (Option Nat) × shp × vl → rs := fun q => match q with | (x, T, w) => (.inr (some (va_rf x)), T, w)
def ρzq (S : shp) (v : vl) : Nat ⊕ ((Option Nat) × shp × vl) → rs := fun q => match q with | .inl k => (.inl k, skip S 6, v) | .inr (x, T, w) => (.inr (some (va_rf x)), T, w)
def ρrv (S : shp) (v : vl) : Unit → rs := fun x => (.inr (none), S, v)
def ρxv (S : shp) (v : vl) : Nat ⊕ Unit → rs := fun q => match q with | .inl k => (.inl k, skip S 6, v) | .inr x => (.inr (none), S, v)
def ρpv (S : shp) : vl → rs := fun w => (.inr none, S, w)
def ρyv (S : shp) (v : vl) : Nat ⊕ vl → rs := fun q => match q with | .inl k => (.inl k, skip S 6, v) | .inr w => (.inr none, S, w)
def ρgv : shp × vl → rs := fun q => match q with | (T, w) => (.inr none, T, w)
def ρzv (S : shp) (v : vl) : Nat ⊕ (shp × vl) → rs := fun q => match q with | .inl k => (.inl k, skip S 6, v) | .inr (T, w) => (.inr none, T, w)
def ρrd (S : shp) (v : vl) : UInt64 → rs := fun x => (.inr (some (.double x)), S, v)
def ρxd (S : shp) (v : vl) : Nat ⊕ UInt64 → rs := fun q => match q with | .inl k => (.inl k, skip S 6, v) | .inr x => (.inr (some (.double x)), S, v)
def ρpd (S : shp) : UInt64 × vl → rs := fun q => match q with | (x, w) => (.inr (some (.double x)), S, w)
def ρyd (S : shp) (v : vl) : Nat ⊕ (UInt64 × vl) → rs := fun q => match q with | .inl k => (.inl k, skip S 6, v) | .inr (x, w) => (.inr (some (.double x)), S, w)
def ρgd : UInt64 × shp × vl → rs := fun q => match q with | (x, T, w) => (.inr (some (.double x)), T, w)
def ρzd (S : shp) (v : vl) : Nat ⊕ (UInt64 × shp × vl) → rs := fun q => match q with | .inl k => (.inl k, skip S 6, v) | .inr (x, T, w) => (.inr (some (.double x)), T, w)
def ρrf (S : shp) (v : vl) : UInt32 → rs := fun x => (.inr (some (.float x)), S, v)
def ρxf (S : shp) (v : vl) : Nat ⊕ UInt32 → rs := fun q => match q with | .inl k => (.inl k, skip S 6, v) | .inr x => (.inr (some (.float x)), S, v)
def ρpf (S : shp) : UInt32 × vl → rs := fun q => match q with | (x, w) => (.inr (some (.float x)), S, w)
def ρyf (S : shp) (v : vl) : Nat ⊕ (UInt32 × vl) → rs := fun q => match q with | .inl k => (.inl k, skip S 6, v) | .inr (x, w) => (.inr (some (.float x)), S, w)
def ρgf : UInt32 × shp × vl → rs := fun q => match q with | (x, T, w) => (.inr (some (.float x)), T, w)
def ρzf (S : shp) (v : vl) : Nat ⊕ (UInt32 × shp × vl) → rs := fun q => match q with | .inl k => (.inl k, skip S 6, v) | .inr (x, T, w) => (.inr (some (.float x)), T, w)
def ρrl (S : shp) (v : vl) : Int64 → rs := fun x => (.inr (some (.long x)), S, v)
def ρxl (S : shp) (v : vl) : Nat ⊕ Int64 → rs := fun q => match q with | .inl k => (.inl k, skip S 6, v) | .inr x => (.inr (some (.long x)), S, v)
def ρpl (S : shp) : Int64 × vl → rs := fun q => match q with | (x, w) => (.inr (some (.long x)), S, w)
def ρyl (S : shp) (v : vl) : Nat ⊕ (Int64 × vl) → rs := fun q => match q with | .inl k => (.inl k, skip S 6, v) | .inr (x, w) => (.inr (some (.long x)), S, w)
def ρgl : Int64 × shp × vl → rs := fun q => match q with | (x, T, w) => (.inr (some (.long x)), T, w)
def ρzl (S : shp) (v : vl) : Nat ⊕ (Int64 × shp × vl) → rs := fun q => match q with | .inl k => (.inl k, skip S 6, v) | .inr (x, T, w) => (.inr (some (.long x)), T, w)
/-- fewer locals known -/
def wkn : lo → lo → Prop
  | [], _ => True
  | _ :: _, [] => False
  | none :: r, _ :: r' => wkn r r'
  | some x :: r, y :: r' => y = some x ∧ wkn r r'
theorem wkn_len : ∀ {L0 L : lo}, wkn L0 L → L0.length ≤ L.length
  | [], _, _ => Nat.zero_le _
  | _ :: _, [], h => h.elim
  | none :: r, y :: r', h => Nat.succ_le_succ (wkn_len (L0 := r) (L := r') h)
  | some x :: r, y :: r', h => Nat.succ_le_succ (wkn_len (L0 := r) (L := r') h.2)
theorem wkn_get : ∀ {L0 L : lo}, wkn L0 L → ∀ (i : Nat) (x : Value), L0[i]? = some (some x) → L[i]? = some (some x)
  | [], _, _, i, x, hx => by simp at hx
  | _ :: _, [], h, _, _, _ => h.elim
  | none :: r, y :: r', h, 0, x, hx => by simp at hx
  | none :: r, y :: r', h, i + 1, x, hx => by simp at hx ⊢; exact wkn_get (L0 := r) (L := r') h i x hx
  | some z :: r, y :: r', h, 0, x, hx => by simp at hx ⊢; rw [h.1, hx]
  | some z :: r, y :: r', h, i + 1, x, hx => by simp at hx ⊢; exact wkn_get (L0 := r) (L := r') h.2 i x hx
theorem lok_wk {ls : Array Slot} {nL : Nat} {L0 L : lo} (h : wkn L0 L) (k : lok ls nL L) : lok ls nL L0 :=
  ⟨k.1, k.2.1, Nat.le_trans (wkn_len h) k.2.2.1, fun i x hx => k.2.2.2 i x (wkn_get h i x hx)⟩
def lt3 {α β γ δ : Type} (a : α) (b : β) (c : γ) (f : α → β → γ → δ) : δ := f a b c
section ROWS
variable {B B' : bd} {pc pc3 q idx : Nat} {L L' : lo} {st st' rest : List Value} {S S1 : shp} {v v1 : vl} {α β : Type} {t t2 : Option α} {ρ : α → rs} {a : Nat}
/-- the callee's and the call's standing facts: body, room, run -/
def CF (B B' : bd) (pc : Nat) (st rest vs : List Value) (S : shp) (v : vl) : Prop := wfB B' ∧ (entL vs).length ≤ bN B' ∧ fitB B B' ∧ ∀ r', RunOK B B' pc st rest vs S v r'

theorem sc_ri {F : Option Int32} {vs : List Value} {f : Int32 → Option α} (c : CF B B' pc st rest vs S v) (hok : SimK B' 0 (entB (bN B') vs) [] S v F (ρri S v)) (hp : pc + 3 = pc3) (k : ∀ x, SimK B pc3 L (.int x :: rest) S v (f x) ρ) : SimK B pc L st S v (F.bind f) ρ :=
  sim_call hok c.1 c.2.1 c.2.2.1 c.2.2.2 (fun x _ => ⟨some (.int x), rfl, by subst hp; exact k x⟩)
theorem sc_xi {F : Option (Nat ⊕ Int32)} {vs : List Value} {thr : Nat → Option α} {f : Int32 → Option α} (c : CF B B' pc st rest vs S v) (hok : SimK B' 0 (entB (bN B') vs) [] S v F (ρxi S v)) (hp : pc + 3 = pc3) (hH : bH B = []) (kt : ∀ k0 a, thr k0 = some a → ρ a = (.inl k0, skip S 6, v)) (k : ∀ x, SimK B pc3 L (.int x :: rest) S v (f x) ρ) : SimK B pc L st S v (bx F thr f) ρ :=
  sim_callx hok c.1 c.2.1 c.2.2.1 c.2.2.2 hH (fun k0 _ => ⟨rfl, kt k0⟩) (fun x _ => ⟨some (.int x), rfl, by subst hp; exact k x⟩)
theorem sc_pi {F : Option (Int32 × vl)} {vs : List Value} {f : Int32 × vl → Option α} (c : CF B B' pc st rest vs S v) (hok : SimK B' 0 (entB (bN B') vs) [] S v F (ρpi S)) (hp : pc + 3 = pc3) (k : ∀ x w, SimK B pc3 L (.int x :: rest) S w (f (x, w)) ρ) : SimK B pc L st S v (F.bind f) ρ :=
  sim_call hok c.1 c.2.1 c.2.2.1 c.2.2.2 (fun q _ => by subst hp; obtain ⟨x, w⟩ := q; exact ⟨some (.int x), rfl, k x w⟩)
theorem sc_yi {F : Option (Nat ⊕ (Int32 × vl))} {vs : List Value} {thr : Nat → Option α} {f : Int32 × vl → Option α} (c : CF B B' pc st rest vs S v) (hok : SimK B' 0 (entB (bN B') vs) [] S v F (ρyi S v)) (hp : pc + 3 = pc3) (hH : bH B = []) (kt : ∀ k0 a, thr k0 = some a → ρ a = (.inl k0, skip S 6, v)) (k : ∀ x w, SimK B pc3 L (.int x :: rest) S w (f (x, w)) ρ) : SimK B pc L st S v (bx F thr f) ρ :=
  sim_callx hok c.1 c.2.1 c.2.2.1 c.2.2.2 hH (fun k0 _ => ⟨rfl, kt k0⟩) (fun q _ => by subst hp; obtain ⟨x, w⟩ := q; exact ⟨some (.int x), rfl, k x w⟩)
theorem sc_gi {F : Option (Int32 × shp × vl)} {vs : List Value} {f : Int32 × shp × vl → Option α} (c : CF B B' pc st rest vs S v) (hok : SimK B' 0 (entB (bN B') vs) [] S v F ρgi) (hp : pc + 3 = pc3) (k : ∀ x T w, le2 S T → SimK B pc3 L (.int x :: rest) T w (f (x, T, w)) ρ) : SimK B pc L st S v (F.bind f) ρ :=
  sim_call hok c.1 c.2.1 c.2.2.1 c.2.2.2 (fun q hq => by subst hp; obtain ⟨x, T, w⟩ := q; exact ⟨some (.int x), rfl, k x T w (hok _ hq).1⟩)
theorem sc_zi {F : Option (Nat ⊕ (Int32 × shp × vl))} {vs : List Value} {thr : Nat → Option α} {f : Int32 × shp × vl → Option α} (c : CF B B' pc st rest vs S v) (hok : SimK B' 0 (entB (bN B') vs) [] S v F (ρzi S v)) (hp : pc + 3 = pc3) (hH : bH B = []) (kt : ∀ k0 a, thr k0 = some a → ρ a = (.inl k0, skip S 6, v)) (k : ∀ x T w, le2 S T → SimK B pc3 L (.int x :: rest) T w (f (x, T, w)) ρ) : SimK B pc L st S v (bx F thr f) ρ :=
  sim_callx hok c.1 c.2.1 c.2.2.1 c.2.2.2 hH (fun k0 _ => ⟨rfl, kt k0⟩) (fun q hq => by subst hp; obtain ⟨x, T, w⟩ := q; exact ⟨some (.int x), rfl, k x T w (hok _ hq).1⟩)
theorem sc_rq {F : Option (Option Nat)} {vs : List Value} {f : (Option Nat) → Option α} (c : CF B B' pc st rest vs S v) (hok : SimK B' 0 (entB (bN B') vs) [] S v F (ρrq S v)) (hp : pc + 3 = pc3) (k : ∀ x, SimK B pc3 L (va_rf x :: rest) S v (f x) ρ) : SimK B pc L st S v (F.bind f) ρ :=
  sim_call hok c.1 c.2.1 c.2.2.1 c.2.2.2 (fun x _ => ⟨some (va_rf x), rfl, by subst hp; exact k x⟩)
theorem sc_xq {F : Option (Nat ⊕ (Option Nat))} {vs : List Value} {thr : Nat → Option α} {f : (Option Nat) → Option α} (c : CF B B' pc st rest vs S v) (hok : SimK B' 0 (entB (bN B') vs) [] S v F (ρxq S v)) (hp : pc + 3 = pc3) (hH : bH B = []) (kt : ∀ k0 a, thr k0 = some a → ρ a = (.inl k0, skip S 6, v)) (k : ∀ x, SimK B pc3 L (va_rf x :: rest) S v (f x) ρ) : SimK B pc L st S v (bx F thr f) ρ :=
  sim_callx hok c.1 c.2.1 c.2.2.1 c.2.2.2 hH (fun k0 _ => ⟨rfl, kt k0⟩) (fun x _ => ⟨some (va_rf x), rfl, by subst hp; exact k x⟩)
theorem sc_pq {F : Option ((Option Nat) × vl)} {vs : List Value} {f : (Option Nat) × vl → Option α} (c : CF B B' pc st rest vs S v) (hok : SimK B' 0 (entB (bN B') vs) [] S v F (ρpq S)) (hp : pc + 3 = pc3) (k : ∀ x w, SimK B pc3 L (va_rf x :: rest) S w (f (x, w)) ρ) : SimK B pc L st S v (F.bind f) ρ :=
  sim_call hok c.1 c.2.1 c.2.2.1 c.2.2.2 (fun q _ => by subst hp; obtain ⟨x, w⟩ := q; exact ⟨some (va_rf x), rfl, k x w⟩)
theorem sc_yq {F : Option (Nat ⊕ ((Option Nat) × vl))} {vs : List Value} {thr : Nat → Option α} {f : (Option Nat) × vl → Option α} (c : CF B B' pc st rest vs S v) (hok : SimK B' 0 (entB (bN B') vs) [] S v F (ρyq S v)) (hp : pc + 3 = pc3) (hH : bH B = []) (kt : ∀ k0 a, thr k0 = some a → ρ a = (.inl k0, skip S 6, v)) (k : ∀ x w, SimK B pc3 L (va_rf x :: rest) S w (f (x, w)) ρ) : SimK B pc L st S v (bx F thr f) ρ :=
  sim_callx hok c.1 c.2.1 c.2.2.1 c.2.2.2 hH (fun k0 _ => ⟨rfl, kt k0⟩) (fun q _ => by subst hp; obtain ⟨x, w⟩ := q; exact ⟨some (va_rf x), rfl, k x w⟩)
theorem sc_gq {F : Option ((Option Nat) × shp × vl)} {vs : List Value} {f : (Option Nat) × shp × vl → Option α} (c : CF B B' pc st rest vs S v) (hok : SimK B' 0 (entB (bN B') vs) [] S v F ρgq) (hp : pc + 3 = pc3) (k : ∀ x T w, le2 S T → SimK B pc3 L (va_rf x :: rest) T w (f (x, T, w)) ρ) : SimK B pc L st S v (F.bind f) ρ :=
  sim_call hok c.1 c.2.1 c.2.2.1 c.2.2.2 (fun q hq => by subst hp; obtain ⟨x, T, w⟩ := q; exact ⟨some (va_rf x), rfl, k x T w (hok _ hq).1⟩)
theorem sc_zq {F : Option (Nat ⊕ ((Option Nat) × shp × vl))} {vs : List Value} {thr : Nat → Option α} {f : (Option Nat) × shp × vl → Option α} (c : CF B B' pc st rest vs S v) (hok : SimK B' 0 (entB (bN B') vs) [] S v F (ρzq S v)) (hp : pc + 3 = pc3) (hH : bH B = []) (kt : ∀ k0 a, thr k0 = some a → ρ a = (.inl k0, skip S 6, v)) (k : ∀ x T w, le2 S T → SimK B pc3 L (va_rf x :: rest) T w (f (x, T, w)) ρ) : SimK B pc L st S v (bx F thr f) ρ :=
  sim_callx hok c.1 c.2.1 c.2.2.1 c.2.2.2 hH (fun k0 _ => ⟨rfl, kt k0⟩) (fun q hq => by subst hp; obtain ⟨x, T, w⟩ := q; exact ⟨some (va_rf x), rfl, k x T w (hok _ hq).1⟩)
theorem sc_rv {F : Option Unit} {vs : List Value} {f : Unit → Option α} (c : CF B B' pc st rest vs S v) (hok : SimK B' 0 (entB (bN B') vs) [] S v F (ρrv S v)) (hp : pc + 3 = pc3) (k : ∀ x, SimK B pc3 L rest S v (f x) ρ) : SimK B pc L st S v (F.bind f) ρ :=
  sim_call hok c.1 c.2.1 c.2.2.1 c.2.2.2 (fun x _ => ⟨none, rfl, by subst hp; exact k x⟩)
theorem sc_xv {F : Option (Nat ⊕ Unit)} {vs : List Value} {thr : Nat → Option α} {f : Unit → Option α} (c : CF B B' pc st rest vs S v) (hok : SimK B' 0 (entB (bN B') vs) [] S v F (ρxv S v)) (hp : pc + 3 = pc3) (hH : bH B = []) (kt : ∀ k0 a, thr k0 = some a → ρ a = (.inl k0, skip S 6, v)) (k : ∀ x, SimK B pc3 L rest S v (f x) ρ) : SimK B pc L st S v (bx F thr f) ρ :=
  sim_callx hok c.1 c.2.1 c.2.2.1 c.2.2.2 hH (fun k0 _ => ⟨rfl, kt k0⟩) (fun x _ => ⟨none, rfl, by subst hp; exact k x⟩)
theorem sc_pv {F : Option vl} {vs : List Value} {f : vl → Option α} (c : CF B B' pc st rest vs S v) (hok : SimK B' 0 (entB (bN B') vs) [] S v F (ρpv S)) (hp : pc + 3 = pc3) (k : ∀ w, SimK B pc3 L rest S w (f w) ρ) : SimK B pc L st S v (F.bind f) ρ :=
  sim_call hok c.1 c.2.1 c.2.2.1 c.2.2.2 (fun w _ => by subst hp; exact ⟨none, rfl, k w⟩)
theorem sc_yv {F : Option (Nat ⊕ vl)} {vs : List Value} {thr : Nat → Option α} {f : vl → Option α} (c : CF B B' pc st rest vs S v) (hok : SimK B' 0 (entB (bN B') vs) [] S v F (ρyv S v)) (hp : pc + 3 = pc3) (hH : bH B = []) (kt : ∀ k0 a, thr k0 = some a → ρ a = (.inl k0, skip S 6, v)) (k : ∀ w, SimK B pc3 L rest S w (f w) ρ) : SimK B pc L st S v (bx F thr f) ρ :=
  sim_callx hok c.1 c.2.1 c.2.2.1 c.2.2.2 hH (fun k0 _ => ⟨rfl, kt k0⟩) (fun w _ => by subst hp; exact ⟨none, rfl, k w⟩)
theorem sc_gv {F : Option (shp × vl)} {vs : List Value} {f : shp × vl → Option α} (c : CF B B' pc st rest vs S v) (hok : SimK B' 0 (entB (bN B') vs) [] S v F ρgv) (hp : pc + 3 = pc3) (k : ∀ T w, le2 S T → SimK B pc3 L rest T w (f (T, w)) ρ) : SimK B pc L st S v (F.bind f) ρ :=
  sim_call hok c.1 c.2.1 c.2.2.1 c.2.2.2 (fun q hq => by subst hp; obtain ⟨T, w⟩ := q; exact ⟨none, rfl, k T w (hok _ hq).1⟩)
theorem sc_zv {F : Option (Nat ⊕ (shp × vl))} {vs : List Value} {thr : Nat → Option α} {f : shp × vl → Option α} (c : CF B B' pc st rest vs S v) (hok : SimK B' 0 (entB (bN B') vs) [] S v F (ρzv S v)) (hp : pc + 3 = pc3) (hH : bH B = []) (kt : ∀ k0 a, thr k0 = some a → ρ a = (.inl k0, skip S 6, v)) (k : ∀ T w, le2 S T → SimK B pc3 L rest T w (f (T, w)) ρ) : SimK B pc L st S v (bx F thr f) ρ :=
  sim_callx hok c.1 c.2.1 c.2.2.1 c.2.2.2 hH (fun k0 _ => ⟨rfl, kt k0⟩) (fun q hq => by subst hp; obtain ⟨T, w⟩ := q; exact ⟨none, rfl, k T w (hok _ hq).1⟩)
theorem sc_rd {F : Option UInt64} {vs : List Value} {f : UInt64 → Option α} (c : CF B B' pc st rest vs S v) (hok : SimK B' 0 (entB (bN B') vs) [] S v F (ρrd S v)) (hp : pc + 3 = pc3) (k : ∀ x, SimK B pc3 L (.double x :: rest) S v (f x) ρ) : SimK B pc L st S v (F.bind f) ρ :=
  sim_call hok c.1 c.2.1 c.2.2.1 c.2.2.2 (fun x _ => ⟨some (.double x), rfl, by subst hp; exact k x⟩)
theorem sc_xd {F : Option (Nat ⊕ UInt64)} {vs : List Value} {thr : Nat → Option α} {f : UInt64 → Option α} (c : CF B B' pc st rest vs S v) (hok : SimK B' 0 (entB (bN B') vs) [] S v F (ρxd S v)) (hp : pc + 3 = pc3) (hH : bH B = []) (kt : ∀ k0 a, thr k0 = some a → ρ a = (.inl k0, skip S 6, v)) (k : ∀ x, SimK B pc3 L (.double x :: rest) S v (f x) ρ) : SimK B pc L st S v (bx F thr f) ρ :=
  sim_callx hok c.1 c.2.1 c.2.2.1 c.2.2.2 hH (fun k0 _ => ⟨rfl, kt k0⟩) (fun x _ => ⟨some (.double x), rfl, by subst hp; exact k x⟩)
theorem sc_pd {F : Option (UInt64 × vl)} {vs : List Value} {f : UInt64 × vl → Option α} (c : CF B B' pc st rest vs S v) (hok : SimK B' 0 (entB (bN B') vs) [] S v F (ρpd S)) (hp : pc + 3 = pc3) (k : ∀ x w, SimK B pc3 L (.double x :: rest) S w (f (x, w)) ρ) : SimK B pc L st S v (F.bind f) ρ :=
  sim_call hok c.1 c.2.1 c.2.2.1 c.2.2.2 (fun q _ => by subst hp; obtain ⟨x, w⟩ := q; exact ⟨some (.double x), rfl, k x w⟩)
theorem sc_yd {F : Option (Nat ⊕ (UInt64 × vl))} {vs : List Value} {thr : Nat → Option α} {f : UInt64 × vl → Option α} (c : CF B B' pc st rest vs S v) (hok : SimK B' 0 (entB (bN B') vs) [] S v F (ρyd S v)) (hp : pc + 3 = pc3) (hH : bH B = []) (kt : ∀ k0 a, thr k0 = some a → ρ a = (.inl k0, skip S 6, v)) (k : ∀ x w, SimK B pc3 L (.double x :: rest) S w (f (x, w)) ρ) : SimK B pc L st S v (bx F thr f) ρ :=
  sim_callx hok c.1 c.2.1 c.2.2.1 c.2.2.2 hH (fun k0 _ => ⟨rfl, kt k0⟩) (fun q _ => by subst hp; obtain ⟨x, w⟩ := q; exact ⟨some (.double x), rfl, k x w⟩)
theorem sc_gd {F : Option (UInt64 × shp × vl)} {vs : List Value} {f : UInt64 × shp × vl → Option α} (c : CF B B' pc st rest vs S v) (hok : SimK B' 0 (entB (bN B') vs) [] S v F ρgd) (hp : pc + 3 = pc3) (k : ∀ x T w, le2 S T → SimK B pc3 L (.double x :: rest) T w (f (x, T, w)) ρ) : SimK B pc L st S v (F.bind f) ρ :=
  sim_call hok c.1 c.2.1 c.2.2.1 c.2.2.2 (fun q hq => by subst hp; obtain ⟨x, T, w⟩ := q; exact ⟨some (.double x), rfl, k x T w (hok _ hq).1⟩)
theorem sc_zd {F : Option (Nat ⊕ (UInt64 × shp × vl))} {vs : List Value} {thr : Nat → Option α} {f : UInt64 × shp × vl → Option α} (c : CF B B' pc st rest vs S v) (hok : SimK B' 0 (entB (bN B') vs) [] S v F (ρzd S v)) (hp : pc + 3 = pc3) (hH : bH B = []) (kt : ∀ k0 a, thr k0 = some a → ρ a = (.inl k0, skip S 6, v)) (k : ∀ x T w, le2 S T → SimK B pc3 L (.double x :: rest) T w (f (x, T, w)) ρ) : SimK B pc L st S v (bx F thr f) ρ :=
  sim_callx hok c.1 c.2.1 c.2.2.1 c.2.2.2 hH (fun k0 _ => ⟨rfl, kt k0⟩) (fun q hq => by subst hp; obtain ⟨x, T, w⟩ := q; exact ⟨some (.double x), rfl, k x T w (hok _ hq).1⟩)
theorem sc_rf {F : Option UInt32} {vs : List Value} {f : UInt32 → Option α} (c : CF B B' pc st rest vs S v) (hok : SimK B' 0 (entB (bN B') vs) [] S v F (ρrf S v)) (hp : pc + 3 = pc3) (k : ∀ x, SimK B pc3 L (.float x :: rest) S v (f x) ρ) : SimK B pc L st S v (F.bind f) ρ :=
  sim_call hok c.1 c.2.1 c.2.2.1 c.2.2.2 (fun x _ => ⟨some (.float x), rfl, by subst hp; exact k x⟩)
theorem sc_xf {F : Option (Nat ⊕ UInt32)} {vs : List Value} {thr : Nat → Option α} {f : UInt32 → Option α} (c : CF B B' pc st rest vs S v) (hok : SimK B' 0 (entB (bN B') vs) [] S v F (ρxf S v)) (hp : pc + 3 = pc3) (hH : bH B = []) (kt : ∀ k0 a, thr k0 = some a → ρ a = (.inl k0, skip S 6, v)) (k : ∀ x, SimK B pc3 L (.float x :: rest) S v (f x) ρ) : SimK B pc L st S v (bx F thr f) ρ :=
  sim_callx hok c.1 c.2.1 c.2.2.1 c.2.2.2 hH (fun k0 _ => ⟨rfl, kt k0⟩) (fun x _ => ⟨some (.float x), rfl, by subst hp; exact k x⟩)
theorem sc_pf {F : Option (UInt32 × vl)} {vs : List Value} {f : UInt32 × vl → Option α} (c : CF B B' pc st rest vs S v) (hok : SimK B' 0 (entB (bN B') vs) [] S v F (ρpf S)) (hp : pc + 3 = pc3) (k : ∀ x w, SimK B pc3 L (.float x :: rest) S w (f (x, w)) ρ) : SimK B pc L st S v (F.bind f) ρ :=
  sim_call hok c.1 c.2.1 c.2.2.1 c.2.2.2 (fun q _ => by subst hp; obtain ⟨x, w⟩ := q; exact ⟨some (.float x), rfl, k x w⟩)
theorem sc_yf {F : Option (Nat ⊕ (UInt32 × vl))} {vs : List Value} {thr : Nat → Option α} {f : UInt32 × vl → Option α} (c : CF B B' pc st rest vs S v) (hok : SimK B' 0 (entB (bN B') vs) [] S v F (ρyf S v)) (hp : pc + 3 = pc3) (hH : bH B = []) (kt : ∀ k0 a, thr k0 = some a → ρ a = (.inl k0, skip S 6, v)) (k : ∀ x w, SimK B pc3 L (.float x :: rest) S w (f (x, w)) ρ) : SimK B pc L st S v (bx F thr f) ρ :=
  sim_callx hok c.1 c.2.1 c.2.2.1 c.2.2.2 hH (fun k0 _ => ⟨rfl, kt k0⟩) (fun q _ => by subst hp; obtain ⟨x, w⟩ := q; exact ⟨some (.float x), rfl, k x w⟩)
theorem sc_gf {F : Option (UInt32 × shp × vl)} {vs : List Value} {f : UInt32 × shp × vl → Option α} (c : CF B B' pc st rest vs S v) (hok : SimK B' 0 (entB (bN B') vs) [] S v F ρgf) (hp : pc + 3 = pc3) (k : ∀ x T w, le2 S T → SimK B pc3 L (.float x :: rest) T w (f (x, T, w)) ρ) : SimK B pc L st S v (F.bind f) ρ :=
  sim_call hok c.1 c.2.1 c.2.2.1 c.2.2.2 (fun q hq => by subst hp; obtain ⟨x, T, w⟩ := q; exact ⟨some (.float x), rfl, k x T w (hok _ hq).1⟩)
theorem sc_zf {F : Option (Nat ⊕ (UInt32 × shp × vl))} {vs : List Value} {thr : Nat → Option α} {f : UInt32 × shp × vl → Option α} (c : CF B B' pc st rest vs S v) (hok : SimK B' 0 (entB (bN B') vs) [] S v F (ρzf S v)) (hp : pc + 3 = pc3) (hH : bH B = []) (kt : ∀ k0 a, thr k0 = some a → ρ a = (.inl k0, skip S 6, v)) (k : ∀ x T w, le2 S T → SimK B pc3 L (.float x :: rest) T w (f (x, T, w)) ρ) : SimK B pc L st S v (bx F thr f) ρ :=
  sim_callx hok c.1 c.2.1 c.2.2.1 c.2.2.2 hH (fun k0 _ => ⟨rfl, kt k0⟩) (fun q hq => by subst hp; obtain ⟨x, T, w⟩ := q; exact ⟨some (.float x), rfl, k x T w (hok _ hq).1⟩)
theorem sc_rl {F : Option Int64} {vs : List Value} {f : Int64 → Option α} (c : CF B B' pc st rest vs S v) (hok : SimK B' 0 (entB (bN B') vs) [] S v F (ρrl S v)) (hp : pc + 3 = pc3) (k : ∀ x, SimK B pc3 L (.long x :: rest) S v (f x) ρ) : SimK B pc L st S v (F.bind f) ρ :=
  sim_call hok c.1 c.2.1 c.2.2.1 c.2.2.2 (fun x _ => ⟨some (.long x), rfl, by subst hp; exact k x⟩)
theorem sc_xl {F : Option (Nat ⊕ Int64)} {vs : List Value} {thr : Nat → Option α} {f : Int64 → Option α} (c : CF B B' pc st rest vs S v) (hok : SimK B' 0 (entB (bN B') vs) [] S v F (ρxl S v)) (hp : pc + 3 = pc3) (hH : bH B = []) (kt : ∀ k0 a, thr k0 = some a → ρ a = (.inl k0, skip S 6, v)) (k : ∀ x, SimK B pc3 L (.long x :: rest) S v (f x) ρ) : SimK B pc L st S v (bx F thr f) ρ :=
  sim_callx hok c.1 c.2.1 c.2.2.1 c.2.2.2 hH (fun k0 _ => ⟨rfl, kt k0⟩) (fun x _ => ⟨some (.long x), rfl, by subst hp; exact k x⟩)
theorem sc_pl {F : Option (Int64 × vl)} {vs : List Value} {f : Int64 × vl → Option α} (c : CF B B' pc st rest vs S v) (hok : SimK B' 0 (entB (bN B') vs) [] S v F (ρpl S)) (hp : pc + 3 = pc3) (k : ∀ x w, SimK B pc3 L (.long x :: rest) S w (f (x, w)) ρ) : SimK B pc L st S v (F.bind f) ρ :=
  sim_call hok c.1 c.2.1 c.2.2.1 c.2.2.2 (fun q _ => by subst hp; obtain ⟨x, w⟩ := q; exact ⟨some (.long x), rfl, k x w⟩)
theorem sc_yl {F : Option (Nat ⊕ (Int64 × vl))} {vs : List Value} {thr : Nat → Option α} {f : Int64 × vl → Option α} (c : CF B B' pc st rest vs S v) (hok : SimK B' 0 (entB (bN B') vs) [] S v F (ρyl S v)) (hp : pc + 3 = pc3) (hH : bH B = []) (kt : ∀ k0 a, thr k0 = some a → ρ a = (.inl k0, skip S 6, v)) (k : ∀ x w, SimK B pc3 L (.long x :: rest) S w (f (x, w)) ρ) : SimK B pc L st S v (bx F thr f) ρ :=
  sim_callx hok c.1 c.2.1 c.2.2.1 c.2.2.2 hH (fun k0 _ => ⟨rfl, kt k0⟩) (fun q _ => by subst hp; obtain ⟨x, w⟩ := q; exact ⟨some (.long x), rfl, k x w⟩)
theorem sc_gl {F : Option (Int64 × shp × vl)} {vs : List Value} {f : Int64 × shp × vl → Option α} (c : CF B B' pc st rest vs S v) (hok : SimK B' 0 (entB (bN B') vs) [] S v F ρgl) (hp : pc + 3 = pc3) (k : ∀ x T w, le2 S T → SimK B pc3 L (.long x :: rest) T w (f (x, T, w)) ρ) : SimK B pc L st S v (F.bind f) ρ :=
  sim_call hok c.1 c.2.1 c.2.2.1 c.2.2.2 (fun q hq => by subst hp; obtain ⟨x, T, w⟩ := q; exact ⟨some (.long x), rfl, k x T w (hok _ hq).1⟩)
theorem sc_zl {F : Option (Nat ⊕ (Int64 × shp × vl))} {vs : List Value} {thr : Nat → Option α} {f : Int64 × shp × vl → Option α} (c : CF B B' pc st rest vs S v) (hok : SimK B' 0 (entB (bN B') vs) [] S v F (ρzl S v)) (hp : pc + 3 = pc3) (hH : bH B = []) (kt : ∀ k0 a, thr k0 = some a → ρ a = (.inl k0, skip S 6, v)) (k : ∀ x T w, le2 S T → SimK B pc3 L (.long x :: rest) T w (f (x, T, w)) ρ) : SimK B pc L st S v (bx F thr f) ρ :=
  sim_callx hok c.1 c.2.1 c.2.2.1 c.2.2.2 hH (fun k0 _ => ⟨rfl, kt k0⟩) (fun q hq => by subst hp; obtain ⟨x, T, w⟩ := q; exact ⟨some (.long x), rfl, k x T w (hok _ hq).1⟩)
-- standing facts of callees
def mV (B' : bd) (ci n : Nat) : Prop := wfB B' ∧ bH B' = [] ∧ nar B' n ∧ Cond.instanceMethod (bY B') ∈ tb2 ∧ (fTN ci).2.2 = (bY B').cls ∧ Cond.selects (bY B').cls (bY B') (bY B') ∈ tb2
def mT (B' : bd) (n : Nat) : Prop := wfB B' ∧ bH B' = [] ∧ nar B' n ∧ Cond.instanceMethod (bY B') ∈ tb2 ∧ (bY B').cls = "java/lang/String" ∧ Cond.selects (bY B').cls (bY B') (bY B') ∈ tb2
def mS (B' : bd) (n : Nat) : Prop := wfB B' ∧ bH B' = [] ∧ nar B' n ∧ Cond.static (bY B') ∈ tb2
def mI (B' : bd) (n : Nat) : Prop := wfB B' ∧ bH B' = [] ∧ bR B' = none ∧ nar B' n ∧ Cond.instanceMethod (bY B') ∈ tb2 ∧ (bY B').name = "<init>"
def mU (B' : bd) (n : Nat) : Prop := wfB B' ∧ bH B' = [] ∧ nar B' n ∧ Cond.instanceMethod (bY B') ∈ tb2 ∧ Cond.selects "java/lang/StringBuilder" (bY B') (bY B') ∈ tb2 ∧ Cond.sameMethod (bY B').cls (bY B').cls (bY B').name (bY B').desc ∈ tb2
def mP (B' : bd) (n : Nat) : Prop := wfB B' ∧ bH B' = [] ∧ nar B' n ∧ Cond.instanceMethod (bY B') ∈ tb2 ∧ Cond.sameMethod (bY B').cls (bY B').cls (bY B').name (bY B').desc ∈ tb2 ∧ Cond.superclass "java/lang/StringBuilder" (bY B').cls ∈ tb2 ∧ (bY B').name ≠ "<init>"
def mX (B' : bd) (n : Nat) : Prop := wfB B' ∧ bH B' ≠ [] ∧ nar B' n ∧ Cond.static (bY B') ∈ tb2
def mO (B' : bd) (x : MethodName) (n : Nat) : Prop := wfB B' ∧ bH B' = [] ∧ nar B' n ∧ x.desc = (bY B').desc ∧ Cond.instanceMethod (bY B') ∈ tb2 ∧ Cond.instanceMethod x ∈ tb2 ∧ (∃ (bx : ByteArray) (mx : Nat) (rx : Option FieldType), Cond.code x bx mx rx ∈ tb2 ∧ goodWord (Cond.code x bx mx rx) = true) ∧ Cond.selects "java/lang/StringBuilder" x (bY B') ∈ tb2 ∧ Cond.sameMethod x.cls x.cls x.name x.desc ∈ tb2 ∧ (x.cls ≠ "java/lang/invoke/MethodHandle" ∧ x.cls ≠ "java/lang/invoke/VarHandle")
theorem cf_O {x : MethodName} {n : Nat} (As : List Value) (m : mO B' x n) (hf : fitB B B') (hlk : Cond.methodLink (owns (bO B)) idx x ∈ tb2) (hA : As.length = n) (hlt : (entL (.ref a :: As)).length ≤ bN B') (hk : kin S a = some (0, 7)) (hd : decode (bC B) pc = .ok (.invokevirtual idx, 3)) (hW : (rest.map fun x => x.category).sum ≤ 8) (hs : st = As.reverse ++ .ref a :: rest) : CF B B' pc st rest (.ref a :: As) S v := by
  subst hs
  obtain ⟨m1, m2, m3, m4, m5, m6, ⟨bx, mx, rx, m7, m8⟩, m9, m10, m11⟩ := m
  exact ⟨m1, hlt, hf, fun r' => run_O m1 m2 hf hlk m3 m4 hA m5 m6 m7 m8 m9 m10 m11 hk hd hW⟩
theorem cf_V {ci n : Nat} (As : List Value) (m : mV B' ci n) (hci : ci < 9) (hf : fitB B B') (hlk : Cond.methodLink (owns (bO B)) idx (bY B') ∈ tb2) (hA : As.length = n) (hlt : (entL (.ref a :: As)).length ≤ bN B') (hk : kin S a = some (0, ci)) (hd : decode (bC B) pc = .ok (.invokevirtual idx, 3)) (hW : (rest.map fun x => x.category).sum ≤ 8) (hs : st = As.reverse ++ .ref a :: rest) : CF B B' pc st rest (.ref a :: As) S v := by
  subst hs
  exact ⟨m.1, hlt, hf, fun r' => run_V m.1 m.2.1 hf hlk m.2.2.1 hA m.2.2.2.1 hci m.2.2.2.2.1 m.2.2.2.2.2 hk hd hW⟩
theorem cf_T {n k : Nat} (As : List Value) (m : mT B' n) (hf : fitB B B') (hlk : Cond.methodLink (owns (bO B)) idx (bY B') ∈ tb2) (hA : As.length = n) (hlt : (entL (.ref a :: As)).length ≤ bN B') (hk : kin S a = some (20, k)) (hd : decode (bC B) pc = .ok (.invokevirtual idx, 3)) (hW : (rest.map fun x => x.category).sum ≤ 8) (hs : st = As.reverse ++ .ref a :: rest) : CF B B' pc st rest (.ref a :: As) S v := by
  subst hs
  exact ⟨m.1, hlt, hf, fun r' => run_Vs m.1 m.2.1 hf hlk m.2.2.1 hA m.2.2.2.1 m.2.2.2.2.1 m.2.2.2.2.2 hk hd hW⟩
theorem cf_S {n : Nat} (As : List Value) (m : mS B' n) (hf : fitB B B') (hlk : Cond.methodLink (owns (bO B)) idx (bY B') ∈ tb2) (hA : As.length = n) (hlt : (entL As).length ≤ bN B') (hd : decode (bC B) pc = .ok (.invokestatic idx, 3)) (hW : (rest.map fun x => x.category).sum ≤ 8) (hs : st = As.reverse ++ rest) : CF B B' pc st rest As S v := by
  subst hs
  exact ⟨m.1, hlt, hf, fun r' => run_S m.1 m.2.1 hf hlk m.2.2.1 hA m.2.2.2 hd hW⟩
theorem cf_SN {n : Nat} {host : String} (As : List Value) (m : mS B' n) (hf : fitB B B') (hlk : Cond.methodLinkNest (owns (bO B)) idx (bY B') host ∈ nbw) (hA : As.length = n) (hlt : (entL As).length ≤ bN B') (hd : decode (bC B) pc = .ok (.invokestatic idx, 3)) (hW : (rest.map fun x => x.category).sum ≤ 8) (hs : st = As.reverse ++ rest) : CF B B' pc st rest As S v := by
  subst hs
  exact ⟨m.1, hlt, hf, fun r' => run_SN m.1 m.2.1 hf hlk m.2.2.1 hA m.2.2.2 hd hW⟩
theorem cf_I {n : Nat} (As : List Value) (m : mI B' n) (hf : fitB B B') (hlk : Cond.methodLink (owns (bO B)) idx (bY B') ∈ tb2) (hA : As.length = n) (hlt : (entL (.ref a :: As)).length ≤ bN B') (hd : decode (bC B) pc = .ok (.invokespecial idx, 3)) (hW : (rest.map fun x => x.category).sum ≤ 8) (hs : st = As.reverse ++ .ref a :: rest) : CF B B' pc st rest (.ref a :: As) S v := by
  subst hs
  exact ⟨m.1, hlt, hf, fun r' => run_I m.1 m.2.1 m.2.2.1 hf hlk m.2.2.2.1 hA m.2.2.2.2.1 m.2.2.2.2.2 hd hW⟩
theorem cf_IN {n : Nat} {host : String} (As : List Value) (m : mI B' n) (hf : fitB B B') (hlk : Cond.methodLinkNest (owns (bO B)) idx (bY B') host ∈ nbw) (hA : As.length = n) (hlt : (entL (.ref a :: As)).length ≤ bN B') (hd : decode (bC B) pc = .ok (.invokespecial idx, 3)) (hW : (rest.map fun x => x.category).sum ≤ 8) (hs : st = As.reverse ++ .ref a :: rest) : CF B B' pc st rest (.ref a :: As) S v := by
  subst hs
  exact ⟨m.1, hlt, hf, fun r' => run_IN m.1 m.2.1 m.2.2.1 hf hlk m.2.2.2.1 hA m.2.2.2.2.1 m.2.2.2.2.2 hd hW⟩
theorem cf_U {n : Nat} (As : List Value) (m : mU B' n) (hf : fitB B B') (hlk : Cond.methodLink (owns (bO B)) idx (bY B') ∈ tb2) (hA : As.length = n) (hlt : (entL (.ref a :: As)).length ≤ bN B') (hk : kin S a = some (0, 7)) (hd : decode (bC B) pc = .ok (.invokevirtual idx, 3)) (hW : (rest.map fun x => x.category).sum ≤ 8) (hs : st = As.reverse ++ .ref a :: rest) : CF B B' pc st rest (.ref a :: As) S v := by
  subst hs
  exact ⟨m.1, hlt, hf, fun r' => run_U m.1 m.2.1 hf hlk m.2.2.1 hA m.2.2.2.1 (selSB_of m.2.2.2.2.1) m.2.2.2.2.2 hk hd hW⟩
theorem cf_P {n : Nat} (As : List Value) (m : mP B' n) (hf : fitB B B') (ho : bO B = 7) (hlk : Cond.methodLink (owns (bO B)) idx (bY B') ∈ tb2) (hA : As.length = n) (hlt : (entL (.ref a :: As)).length ≤ bN B') (hk : kin S a = some (0, 7)) (hd : decode (bC B) pc = .ok (.invokespecial idx, 3)) (hW : (rest.map fun x => x.category).sum ≤ 8) (hs : st = As.reverse ++ .ref a :: rest) : CF B B' pc st rest (.ref a :: As) S v := by
  subst hs
  exact ⟨m.1, hlt, hf, fun r' => run_SU m.1 m.2.1 hf ho hlk m.2.2.1 hA m.2.2.2.1 m.2.2.2.2.1 (by rw [ho]; exact m.2.2.2.2.2.1) m.2.2.2.2.2.2 hk hd hW⟩
-- new cells, stores of references, statics, texts
theorem sim_new {ci : Nat} {f : shp → Nat → vl → Option α} (hci : ci < 9) (hd : decode (bC B) pc = .ok (.new idx, 3)) (hcl : Cond.classLink (owns (bO B)) idx (fTN ci).2.2 ∈ tb2) (hinst : Cond.instantiable (fTN ci).2.2 (fTN ci).2.1 ∈ tb2) (hini : Cond.initialized (fTN ci).2.2 ∈ tb2) (hp : pc + 3 = pc3) (hn : kin S (nxt S) = none)
    (k : ∀ T x w, le2 S T → kin T x = some (0, ci) → SimK B pc3 L (.ref x :: st) T w (f T x w) ρ) : SimK B pc L st S v (lt3 (grow S (0, ci) (fTN ci).2.1) (nxt S) (zero v (nxt S)) f) ρ := by
  subst hp
  intro a ha
  obtain ⟨g1, g2⟩ := k _ _ _ (le2_grow hn) (by show (if nxt S = nxt S then some (0, ci) else _) = _; rw [if_pos rfl]) a ha
  exact ⟨(le2_grow hn).tr g1, VB.new hci hd hcl hinst hini g1 g2⟩
theorem sim_newa {ty N : Nat} {n : Int32} {f : shp → Nat → vl → Option α} (ht : ty < 2) (hd : decode (bC B) pc = .ok (.newarray (atp ty), 2)) (hp : pc + 2 = pc3) (h0 : ¬ n < 0) (hN : n.toNatClampNeg = N) (hb8 : N ≤ 65536) (hn : kin S (nxt S) = none)
    (k : ∀ T x w, le2 S T → kin T x = some (ty + 1, N) → SimK B pc3 L (.ref x :: st) T w (f T x w) ρ) : SimK B pc L (.int n :: st) S v (lt3 (grow S (ty + 1, N) N) (nxt S) (zero v (nxt S)) f) ρ := by
  subst hp
  intro a ha
  obtain ⟨g1, g2⟩ := k _ _ _ (le2_grow hn) (by show (if nxt S = nxt S then some (ty + 1, N) else _) = _; rw [if_pos rfl]) a ha
  exact ⟨(le2_grow hn).tr g1, VB.newa ht hd h0 hN hb8 g1 g2⟩
theorem sim_newq {ty N : Nat} {n : Int32} {f : shp → Nat → vl → Option α} (ht : ty = 3 ∨ ty = 4) (hd : decode (bC B) pc = .ok (.anewarray idx, 3)) (hcl : Cond.classLink (owns (bO B)) idx (if ty = 3 then RX4 else RX1) ∈ tb2) (hp : pc + 3 = pc3) (h0 : ¬ n < 0) (hN : n.toNatClampNeg = N) (hb8 : N ≤ 65536) (hn : kin S (nxt S) = none)
    (k : ∀ T x w, le2 S T → kin T x = some (ty + 1, N) → SimK B pc3 L (.ref x :: st) T w (f T x w) ρ) : SimK B pc L (.int n :: st) S v (lt3 (grow S (ty + 1, N) N) (nxt S) (zero v (nxt S)) f) ρ := by
  subst hp
  intro a ha
  obtain ⟨g1, g2⟩ := k _ _ _ (le2_grow hn) (by show (if nxt S = nxt S then some (ty + 1, N) else _) = _; rw [if_pos rfl]) a ha
  exact ⟨(le2_grow hn).tr g1, VB.newq ht hd hcl h0 hN hb8 g1 g2⟩
theorem sim_oinit (hd : decode (bC B) pc = .ok (.invokespecial idx, 3)) (hlk : Cond.methodLink (owns (bO B)) idx Lib.objectInit ∈ tb2) (hL : 1 ≤ bL B) (hW : (st.map fun x => x.category).sum ≤ 8) (hp : pc + 3 = pc3) (k : SimK B pc3 L st S v t ρ) : SimK B pc L (.ref a :: st) S v t ρ := by
  subst hp
  exact fun b hb => ⟨(k b hb).1, VB.oinit hd hlk hL hW (k b hb).2⟩
theorem sim_puti {ci m : Nat} {x : Int32} {f : vl → Option α} (hd : decode (bC B) pc = .ok (.putfield idx, 3)) (hq : (idx, ci, m) ∈ ftab (bO B)) (hfin : ((fTN ci).1 m).2.2.2 = false ∨ ((bY B).name = "<init>" ∧ ((fTN ci).1 m).1 = owns (bO B))) (hk : kin S a = some (0, ci)) (hi : isR ci m = false) (hi2 : isL ci m = false) (hpr : narrow (fty ci m) (.int x) = .int x ∧ fits (fty ci m) (.int x) = true) (hp : pc + 3 = pc3)
    (k : ∀ w, SimK B pc3 L st S w (f w) ρ) : SimK B pc L (.int x :: .ref a :: st) S v (lt (si v a m x) f) ρ := by
  subst hp
  exact fun b hb => ⟨(k _ b hb).1, VB.puti hd hq hfin hk hi hi2 hpr (k _ b hb).2⟩
theorem sim_putr {ci m x : Nat} {f : shp → Option α} (hd : decode (bC B) pc = .ok (.putfield idx, 3)) (hq : (idx, ci, m) ∈ ftab (bO B)) (hfin : ((fTN ci).1 m).2.2.2 = false ∨ ((bY B).name = "<init>" ∧ ((fTN ci).1 m).1 = owns (bO B))) (hk : kin S a = some (0, ci)) (hi : isR ci m = true) (hp : pc + 3 = pc3)
    (k : ∀ T, le2 S T → SimK B pc3 L st T v (f T) ρ) : SimK B pc L (.ref x :: .ref a :: st) S v (lt (sr S a m (some x)) f) ρ := by
  subst hp
  exact fun b hb => ⟨le2_sr.tr (k _ le2_sr b hb).1, VB.putr hd hq hfin hk hi (k _ le2_sr b hb).2⟩
theorem sim_aast {ty x ci : Nat} {i : Int32} {f : shp → Option α} (ht : (ty = 3 ∧ ci = 4) ∨ (ty = 4 ∧ ci = 1)) (hd : decode (bC B) pc = .ok (.aastore, 1)) (hk : kin S a = some (ty + 1, alen S a)) (hin : vp_in i (alen S a)) (hx1 : kin S x = some (0, ci)) (hp : pc + 1 = pc3)
    (k : ∀ T, le2 S T → SimK B pc3 L st T v (f T) ρ) : SimK B pc L (.ref x :: .int i :: .ref a :: st) S v (lt (sr S a i.toNatClampNeg (some x)) f) ρ := by
  subst hp
  exact fun b hb => ⟨le2_sr.tr (k _ le2_sr b hb).1, VB.aast ht hd hk hin hx1 (k _ le2_sr b hb).2⟩
theorem sim_gets {m : Nat} (hm : m < 4) (hd : decode (bC B) pc = .ok (.getstatic idx, 3)) (hlk : Cond.fieldLink (owns (bO B)) idx (stat S m).1 (stat S m).2.1 (stat S m).2.2.1 ∈ tb2) (hp : pc + 3 = pc3) (k : SimK B pc3 L ((stat S m).2.2.2 :: st) S v t ρ) : SimK B pc L st S v t ρ := by
  subst hp
  exact fun b hb => ⟨(k b hb).1, VB.gets hm hd hlk (k b hb).2⟩
theorem sim_getf (hd : decode (bC B) pc = .ok (.getstatic idx, 3)) (hlk : Cond.fieldLink (owns (bO B)) idx "jdk/internal/util/Preconditions" "SIOOBE_FORMATTER" "Ljava/util/function/BiFunction;" ∈ tb2) (hp : pc + 3 = pc3) (k : ∀ o : Option Nat, SimK B pc3 L (va_rf o :: st) S v t ρ) : SimK B pc L st S v t ρ := by
  subst hp
  exact fun b hb => ⟨(k none b hb).1, VB.getf hd hlk (fun o => (k o b hb).2)⟩
theorem sim_ldcs {tx : String} {j : Nat} (hd : decode (bC B) pc = .ok (.ldc idx, 2)) (hq : (owns (bO B), idx, tx, j) ∈ strs) (hp : pc + 2 = pc3) (k : SimK B pc3 L (.ref (kad S j) :: st) S v t ρ) : SimK B pc L st S v t ρ := by
  subst hp
  exact fun b hb => ⟨(k b hb).1, VB.ldcs hd hq (k b hb).2⟩
theorem sim_gett0 {n h : Nat} (hk : kin S a = some (20, n)) (hg : gr S a 0 = some h) (hd : decode (bC B) pc = .ok (.getfield idx, 3)) (hlk : Cond.fieldLink (owns (bO B)) idx "java/lang/String" "value" "[B" ∈ tb2) (hp : pc + 3 = pc3) (k : SimK B pc3 L (.ref h :: st) S v t ρ) : SimK B pc L (.ref a :: st) S v t ρ := by
  subst hp
  refine fun b hb => ⟨(k b hb).1, VB.gett (k := 0) (by omega) hk hd hlk ?_⟩
  rw [if_pos rfl, hg]
  exact (k b hb).2
theorem sim_gett1 {n : Nat} (hk : kin S a = some (20, n)) (hd : decode (bC B) pc = .ok (.getfield idx, 3)) (hlk : Cond.fieldLink (owns (bO B)) idx "java/lang/String" "coder" "B" ∈ tb2) (hp : pc + 3 = pc3) (k : SimK B pc3 L (.int (gi v a 1) :: st) S v t ρ) : SimK B pc L (.ref a :: st) S v t ρ := by
  subst hp
  exact fun b hb => ⟨(k b hb).1, VB.gett (k := 1) (by omega) hk hd hlk (k b hb).2⟩
theorem sim_copy {a0 ty : Nat} {sp dp n : Int32} {f : vl → Option α} (ht : ty < 2) (hd : decode (bC B) pc = .ok (.invokestatic idx, 3)) (hlk : Cond.methodLink (owns (bO B)) idx arraycopyName ∈ tb2) (hk0 : kin S a0 = some (ty + 1, alen S a0) ∨ kin S a0 = some (ty + 11, alen S a0)) (hk1 : kin S a = some (ty + 1, alen S a))
    (hc : (¬ sp < 0 ∧ ¬ dp < 0 ∧ ¬ n < 0) ∧ sp.toNatClampNeg + n.toNatClampNeg ≤ alen S a0 ∧ dp.toNatClampNeg + n.toNatClampNeg ≤ alen S a ∧ ∀ i, i < n.toNatClampNeg → fits (aty ty) (.int (gi v a0 (sp.toNatClampNeg + i))) = true)
    (hL : 2 ≤ bL B) (hW : (st.map fun x => x.category).sum ≤ 8) (hp : pc + 3 = pc3) (k : ∀ w, SimK B pc3 L st S w (f w) ρ) : SimK B pc L (.int n :: .int dp :: .ref a :: .int sp :: .ref a0 :: st) S v (lt (cpy v a0 sp.toNatClampNeg a dp.toNatClampNeg n.toNatClampNeg) f) ρ := by
  subst hp
  exact fun b hb => ⟨(k _ b hb).1, VB.copy ht hd hlk hk0 hk1 hc.1.1 hc.1.2.1 hc.1.2.2 hc.2.1 hc.2.2.1 hc.2.2.2 hL hW (k _ b hb).2⟩
theorem J_toInt {z : Int} (h : -2147483648 ≤ z) (h2 : z < 2147483648) : (J z).toInt = z := by
  unfold J
  rw [Int32.toInt_ofInt]
  show z.bmod 4294967296 = z
  exact Int.bmod_eq_of_le (by omega) (by omega)
theorem ne_J {x : Int32} {z : Int} (h : ¬ x = J z) (h1 : -2147483648 ≤ z) (h2 : z < 2147483648) : x.toInt ≠ z := fun hz => h (Int32.toInt_inj.mp (by rw [J_toInt h1 h2]; exact hz))
theorem sim_wk {L0 : lo} (h : wkn L0 L) (k : SimK B pc L0 st S v t ρ) : SimK B pc L st S v t ρ := by
  intro a ha
  obtain ⟨g1, g2⟩ := k a ha
  exact ⟨g1, fun p l e E s m args below meth c n0 z0 mc ms C htb h1 h2 H locs cells slots ls hr hl hf hc hz => g2 p l e E s m args below meth c n0 z0 mc ms C htb h1 h2 H locs cells slots ls hr (lok_wk h hl) hf hc hz⟩
theorem sim_ifT {c : Prop} [Decidable c] (h : c) (k : SimK B pc L st S v (if c then t else none) ρ) : SimK B pc L st S v t ρ := by rwa [if_pos h] at k
theorem sim_ifF {c : Prop} [Decidable c] (h : ¬ c) (k : SimK B pc L st S v (if c then none else t) ρ) : SimK B pc L st S v t ρ := by rwa [if_neg h] at k
theorem sim_case {x : Int32} {df lw hg o z : Int} {offs : Array Int} {len tg : Nat} (hd : decode (bC B) pc = .ok (.tableswitch df lw hg offs, len)) (ho : offs[(z - lw).toNat]? = some o) (ht : (pc : Int) + o = (tg : Int)) (hz : lw ≤ z ∧ z ≤ hg ∧ -2147483648 ≤ z ∧ z < 2147483648)
    (kt : x = J z → SimK B tg L st S v t ρ) (kf : ¬ x = J z → SimK B pc L (.int x :: st) S v t2 ρ) : SimK B pc L (.int x :: st) S v (if x = J z then t else t2) ρ := by
  by_cases h : x = J z
  · rw [if_pos h]
    intro a ha
    refine ⟨(kt h a ha).1, ?_⟩
    have e : x.toInt = z := by rw [h]; exact J_toInt hz.2.2.1 hz.2.2.2
    intro p l ev E s m args below meth c n0 z0 mc ms C htb h1 h2 H locs cells slots ls hr hl hf hc hz'
    exact lv_tableIn C.1.1 C.1.2.1 hd (by omega) (by omega) (by rw [e]; exact ho) ht ((kt h a ha).2 p l ev E s m args below meth c n0 z0 mc ms C htb h1 h2 H locs cells slots ls hr hl hf hc hz')
  · rw [if_neg h]
    exact kf h
theorem sim_tdef {x : Int32} {df lw hg : Int} {offs : Array Int} {len tg : Nat} (hd : decode (bC B) pc = .ok (.tableswitch df lw hg offs, len)) (ht : (pc : Int) + df = (tg : Int)) (h : x.toInt < lw ∨ hg < x.toInt) (k : SimK B tg L st S v t ρ) : SimK B pc L (.int x :: st) S v t ρ := by
  intro a ha
  refine ⟨(k a ha).1, ?_⟩
  intro p l ev E s m args below meth c n0 z0 mc ms C htb h1 h2 H locs cells slots ls hr hl hf hc hz'
  exact lv_tableOut C.1.1 C.1.2.1 hd h ht ((k a ha).2 p l ev E s m args below meth c n0 z0 mc ms C htb h1 h2 H locs cells slots ls hr hl hf hc hz')
/-- a row of bytes cloned, then cast to its own type -/
theorem sim_clone {ic : Nat} {f : shp → Nat → vl → Option α} (hd : decode (bC B) pc = .ok (.invokevirtual idx, 3)) (hd2 : decode (bC B) (pc + 3) = .ok (.checkcast ic, 3)) (hlk : Cond.methodLink (owns (bO B)) idx ⟨"[B", "clone", "()Ljava/lang/Object;"⟩ ∈ tb2) (hcl : Cond.classLink (owns (bO B)) ic "[B" ∈ tb2) (hk : kin S a = some (2, alen S a))
    (hL : 1 ≤ bL B) (hW : (st.map fun x => x.category).sum ≤ 8) (hfv : ∀ j, j < alen S a → fits .byte (.int (gi v a j)) = true) (hp : pc + 6 = pc3) (hn : kin S (nxt S) = none)
    (k : ∀ T x w, le2 S T → kin T x = some (2, alen S a) → SimK B pc3 L (.ref x :: st) T w (f T x w) ρ) : SimK B pc L (.ref a :: st) S v (lt3 (grow S (2, alen S a) (alen S a)) (nxt S) (cpy (zero v (nxt S)) a 0 (nxt S) 0 (alen S a)) f) ρ := by
  subst hp
  intro b hb
  obtain ⟨g1, g2⟩ := k _ _ _ (le2_grow hn) (by show (if nxt S = nxt S then some (2, alen S a) else _) = _; rw [if_pos rfl]) b hb
  exact ⟨(le2_grow hn).tr g1, VB.clone hd hd2 hlk hcl hk hL hW hfv g1 g2⟩
end ROWS
