/-! Walks against functions: t is what a program wrote from the bytecode; where it gives a result, the walk comes to it. -/
def SimK (B : bd) (pc : Nat) (L : lo) (st : List Value) (S : shp) (v : vl) {α : Type} (t : Option α) (ρ : α → rs) : Prop := ∀ a, t = some a → le2 S (ρ a).2.1 ∧ VB B pc L st S v (ρ a)
noncomputable def grd {α : Type} (P : Prop) (t : Option α) : Option α := @ite _ P (Classical.propDecidable P) t none
theorem grd_pos {α : Type} {P : Prop} {t : Option α} (h : P) : grd P t = t := by unfold grd; rw [if_pos h]
theorem grd_some {α : Type} {P : Prop} {t : Option α} {a : α} (h : grd P t = some a) : P ∧ t = some a := by
  unfold grd at h
  split at h
  · exact ⟨by assumption, h⟩
  · cases h
/-- a name for a value -/
def lt {β α : Type} (x : β) (f : β → α) : α := f x
/-- a callee that may throw -/
def bx {X α : Type} (F : Option (Nat ⊕ X)) (thr : Nat → Option α) (f : X → Option α) : Option α := match F with
  | none => none
  | some (.inl k) => thr k
  | some (.inr x) => f x
/-- null or not -/
def oc2 {α : Type} (o : Option Nat) (t : α) (f : Nat → α) : α := match o with
  | none => t
  | some a => f a
section SIM
variable {B B' : bd} {pc q : Nat} {L L' : lo} {st st' rest : List Value} {S S1 : shp} {v v1 : vl} {α β : Type} {t t2 : Option α} {ρ : α → rs} {a : Nat}
theorem sim_none : SimK B pc L st S v (none : Option α) ρ := fun a h => by cases h
theorem sim_grd {P : Prop} (k : P → SimK B pc L st S v t ρ) : SimK B pc L st S v (grd P t) ρ := fun a h => k (grd_some h).1 a (grd_some h).2
theorem sim_lt {x : β} {f : β → Option α} (k : SimK B pc L st S v (f x) ρ) : SimK B pc L st S v (lt x f) ρ := k
theorem sim_bind {o : Option β} {f : β → Option α} (k : ∀ x, o = some x → SimK B pc L st S v (f x) ρ) : SimK B pc L st S v (o.bind f) ρ := by
  intro a h
  cases ho : o with
  | none => rw [ho] at h; cases h
  | some x => rw [ho] at h; exact k x ho a h
theorem sim_seg (is : List inr) (hs : List Nat) {P : Prop} (h : sgm (bC B) (bO B) pc is q = true) (e : exs is hs S v L st = ((L', st', v1), P)) (hp : P) (k : SimK B q L' st' S v1 t ρ) : SimK B pc L st S v t ρ :=
  fun a ha => ⟨(k a ha).1, VB.seg is hs h e hp (k a ha).2⟩
/-- a stretch that ends with a store: the contents get a name -/
theorem sim_segv (is : List inr) (hs : List Nat) {P : Prop} {f : vl → Option α} (h : sgm (bC B) (bO B) pc is q = true) (e : exs is hs S v L st = ((L', st', v1), P)) (hp : P) (k : ∀ w, SimK B q L' st' S w (f w) ρ) : SimK B pc L st S v (lt v1 f) ρ :=
  sim_seg is hs h e hp (k v1)
/-- a name for a number in locals and stack -/
theorem sim_nm (x : β) (Lf : β → lo) (sf : β → List Value) {f : β → Option α} (k : ∀ y, SimK B pc (Lf y) (sf y) S v (f y) ρ) (hL : L = Lf x) (hs : st = sf x) : SimK B pc L st S v (lt x f) ρ := by
  subst hL; subst hs; exact k x
theorem int_ge {x y : Int32} : x ≥ y ↔ ¬ x < y := (Int32.not_lt).symm
theorem int_le {x y : Int32} : x ≤ y ↔ ¬ y < x := (Int32.not_lt).symm
-- branches; c: =, ¬ =, <, ≥, >, ≤
theorem sim_eq {x y : Int32} {o : Int} {tg f : Nat} (hd : decode (bC B) pc = .ok (.if_icmp .eq o, 3)) (ht : (pc : Int) + o = (tg : Int)) (hf : pc + 3 = f) (kt : x = y → SimK B tg L st S v t ρ) (kf : ¬ x = y → SimK B f L st S v t2 ρ) : SimK B pc L (.int y :: .int x :: st) S v (if x = y then t else t2) ρ := by
  by_cases h : x = y
  · rw [if_pos h]; exact fun a ha => ⟨(kt h a ha).1, VB.icmp .eq hd ht hf (x = y) Iff.rfl (fun _ => (kt h a ha).2) (fun n => absurd h n)⟩
  · rw [if_neg h]; exact fun a ha => ⟨(kf h a ha).1, VB.icmp .eq hd ht hf (x = y) Iff.rfl (fun n => absurd n h) (fun _ => (kf h a ha).2)⟩
theorem sim_ne {x y : Int32} {o : Int} {tg f : Nat} (hd : decode (bC B) pc = .ok (.if_icmp .ne o, 3)) (ht : (pc : Int) + o = (tg : Int)) (hf : pc + 3 = f) (kf : x = y → SimK B f L st S v t ρ) (kt : ¬ x = y → SimK B tg L st S v t2 ρ) : SimK B pc L (.int y :: .int x :: st) S v (if x = y then t else t2) ρ := by
  by_cases h : x = y
  · rw [if_pos h]; exact fun a ha => ⟨(kf h a ha).1, VB.icmp .ne hd ht hf (¬ x = y) Iff.rfl (fun n => absurd h n) (fun _ => (kf h a ha).2)⟩
  · rw [if_neg h]; exact fun a ha => ⟨(kt h a ha).1, VB.icmp .ne hd ht hf (¬ x = y) Iff.rfl (fun _ => (kt h a ha).2) (fun n => absurd h n)⟩
theorem sim_lt' {x y : Int32} {o : Int} {tg f : Nat} (hd : decode (bC B) pc = .ok (.if_icmp .lt o, 3)) (ht : (pc : Int) + o = (tg : Int)) (hf : pc + 3 = f) (kt : x < y → SimK B tg L st S v t ρ) (kf : ¬ x < y → SimK B f L st S v t2 ρ) : SimK B pc L (.int y :: .int x :: st) S v (if x < y then t else t2) ρ := by
  by_cases h : x < y
  · rw [if_pos h]; exact fun a ha => ⟨(kt h a ha).1, VB.icmp .lt hd ht hf (x < y) Iff.rfl (fun _ => (kt h a ha).2) (fun n => absurd h n)⟩
  · rw [if_neg h]; exact fun a ha => ⟨(kf h a ha).1, VB.icmp .lt hd ht hf (x < y) Iff.rfl (fun n => absurd n h) (fun _ => (kf h a ha).2)⟩
theorem sim_ge {x y : Int32} {o : Int} {tg f : Nat} (hd : decode (bC B) pc = .ok (.if_icmp .ge o, 3)) (ht : (pc : Int) + o = (tg : Int)) (hf : pc + 3 = f) (kf : x < y → SimK B f L st S v t ρ) (kt : ¬ x < y → SimK B tg L st S v t2 ρ) : SimK B pc L (.int y :: .int x :: st) S v (if x < y then t else t2) ρ := by
  by_cases h : x < y
  · rw [if_pos h]; exact fun a ha => ⟨(kf h a ha).1, VB.icmp .ge hd ht hf (¬ x < y) int_ge (fun n => absurd h n) (fun _ => (kf h a ha).2)⟩
  · rw [if_neg h]; exact fun a ha => ⟨(kt h a ha).1, VB.icmp .ge hd ht hf (¬ x < y) int_ge (fun _ => (kt h a ha).2) (fun n => absurd h n)⟩
theorem sim_gt {x y : Int32} {o : Int} {tg f : Nat} (hd : decode (bC B) pc = .ok (.if_icmp .gt o, 3)) (ht : (pc : Int) + o = (tg : Int)) (hf : pc + 3 = f) (kt : y < x → SimK B tg L st S v t ρ) (kf : ¬ y < x → SimK B f L st S v t2 ρ) : SimK B pc L (.int y :: .int x :: st) S v (if y < x then t else t2) ρ := by
  by_cases h : y < x
  · rw [if_pos h]; exact fun a ha => ⟨(kt h a ha).1, VB.icmp .gt hd ht hf (y < x) Iff.rfl (fun _ => (kt h a ha).2) (fun n => absurd h n)⟩
  · rw [if_neg h]; exact fun a ha => ⟨(kf h a ha).1, VB.icmp .gt hd ht hf (y < x) Iff.rfl (fun n => absurd n h) (fun _ => (kf h a ha).2)⟩
theorem sim_le {x y : Int32} {o : Int} {tg f : Nat} (hd : decode (bC B) pc = .ok (.if_icmp .le o, 3)) (ht : (pc : Int) + o = (tg : Int)) (hf : pc + 3 = f) (kf : y < x → SimK B f L st S v t ρ) (kt : ¬ y < x → SimK B tg L st S v t2 ρ) : SimK B pc L (.int y :: .int x :: st) S v (if y < x then t else t2) ρ := by
  by_cases h : y < x
  · rw [if_pos h]; exact fun a ha => ⟨(kf h a ha).1, VB.icmp .le hd ht hf (¬ y < x) int_le (fun n => absurd h n) (fun _ => (kf h a ha).2)⟩
  · rw [if_neg h]; exact fun a ha => ⟨(kt h a ha).1, VB.icmp .le hd ht hf (¬ y < x) int_le (fun _ => (kt h a ha).2) (fun n => absurd h n)⟩
theorem J0 : J 0 = (0 : Int32) := by decide
theorem sim_eq0 {x : Int32} {o : Int} {tg f : Nat} (hd : decode (bC B) pc = .ok (.ifCond .eq o, 3)) (ht : (pc : Int) + o = (tg : Int)) (hf : pc + 3 = f) (kt : x = J 0 → SimK B tg L st S v t ρ) (kf : ¬ x = J 0 → SimK B f L st S v t2 ρ) : SimK B pc L (.int x :: st) S v (if x = J 0 then t else t2) ρ := by
  by_cases h : x = J 0
  · rw [if_pos h]; exact fun a ha => ⟨(kt h a ha).1, VB.ifc .eq hd ht hf (x = J 0) (by rw [J0]) (fun _ => (kt h a ha).2) (fun n => absurd h n)⟩
  · rw [if_neg h]; exact fun a ha => ⟨(kf h a ha).1, VB.ifc .eq hd ht hf (x = J 0) (by rw [J0]) (fun n => absurd n h) (fun _ => (kf h a ha).2)⟩
theorem sim_ne0 {x : Int32} {o : Int} {tg f : Nat} (hd : decode (bC B) pc = .ok (.ifCond .ne o, 3)) (ht : (pc : Int) + o = (tg : Int)) (hf : pc + 3 = f) (kf : x = J 0 → SimK B f L st S v t ρ) (kt : ¬ x = J 0 → SimK B tg L st S v t2 ρ) : SimK B pc L (.int x :: st) S v (if x = J 0 then t else t2) ρ := by
  by_cases h : x = J 0
  · rw [if_pos h]; exact fun a ha => ⟨(kf h a ha).1, VB.ifc .ne hd ht hf (¬ x = J 0) (by rw [J0]) (fun n => absurd h n) (fun _ => (kf h a ha).2)⟩
  · rw [if_neg h]; exact fun a ha => ⟨(kt h a ha).1, VB.ifc .ne hd ht hf (¬ x = J 0) (by rw [J0]) (fun _ => (kt h a ha).2) (fun n => absurd h n)⟩
theorem sim_lt0 {x : Int32} {o : Int} {tg f : Nat} (hd : decode (bC B) pc = .ok (.ifCond .lt o, 3)) (ht : (pc : Int) + o = (tg : Int)) (hf : pc + 3 = f) (kt : x < J 0 → SimK B tg L st S v t ρ) (kf : ¬ x < J 0 → SimK B f L st S v t2 ρ) : SimK B pc L (.int x :: st) S v (if x < J 0 then t else t2) ρ := by
  by_cases h : x < J 0
  · rw [if_pos h]; exact fun a ha => ⟨(kt h a ha).1, VB.ifc .lt hd ht hf (x < J 0) (by rw [J0]) (fun _ => (kt h a ha).2) (fun n => absurd h n)⟩
  · rw [if_neg h]; exact fun a ha => ⟨(kf h a ha).1, VB.ifc .lt hd ht hf (x < J 0) (by rw [J0]) (fun n => absurd n h) (fun _ => (kf h a ha).2)⟩
theorem sim_ge0 {x : Int32} {o : Int} {tg f : Nat} (hd : decode (bC B) pc = .ok (.ifCond .ge o, 3)) (ht : (pc : Int) + o = (tg : Int)) (hf : pc + 3 = f) (kf : x < J 0 → SimK B f L st S v t ρ) (kt : ¬ x < J 0 → SimK B tg L st S v t2 ρ) : SimK B pc L (.int x :: st) S v (if x < J 0 then t else t2) ρ := by
  by_cases h : x < J 0
  · rw [if_pos h]; exact fun a ha => ⟨(kf h a ha).1, VB.ifc .ge hd ht hf (¬ x < J 0) (by rw [J0]; exact int_ge) (fun n => absurd h n) (fun _ => (kf h a ha).2)⟩
  · rw [if_neg h]; exact fun a ha => ⟨(kt h a ha).1, VB.ifc .ge hd ht hf (¬ x < J 0) (by rw [J0]; exact int_ge) (fun _ => (kt h a ha).2) (fun n => absurd h n)⟩
theorem sim_gt0 {x : Int32} {o : Int} {tg f : Nat} (hd : decode (bC B) pc = .ok (.ifCond .gt o, 3)) (ht : (pc : Int) + o = (tg : Int)) (hf : pc + 3 = f) (kt : J 0 < x → SimK B tg L st S v t ρ) (kf : ¬ J 0 < x → SimK B f L st S v t2 ρ) : SimK B pc L (.int x :: st) S v (if J 0 < x then t else t2) ρ := by
  by_cases h : J 0 < x
  · rw [if_pos h]; exact fun a ha => ⟨(kt h a ha).1, VB.ifc .gt hd ht hf (J 0 < x) (by rw [J0]) (fun _ => (kt h a ha).2) (fun n => absurd h n)⟩
  · rw [if_neg h]; exact fun a ha => ⟨(kf h a ha).1, VB.ifc .gt hd ht hf (J 0 < x) (by rw [J0]) (fun n => absurd n h) (fun _ => (kf h a ha).2)⟩
theorem sim_le0 {x : Int32} {o : Int} {tg f : Nat} (hd : decode (bC B) pc = .ok (.ifCond .le o, 3)) (ht : (pc : Int) + o = (tg : Int)) (hf : pc + 3 = f) (kf : J 0 < x → SimK B f L st S v t ρ) (kt : ¬ J 0 < x → SimK B tg L st S v t2 ρ) : SimK B pc L (.int x :: st) S v (if J 0 < x then t else t2) ρ := by
  by_cases h : J 0 < x
  · rw [if_pos h]; exact fun a ha => ⟨(kf h a ha).1, VB.ifc .le hd ht hf (¬ J 0 < x) (by rw [J0]; exact int_le) (fun n => absurd h n) (fun _ => (kf h a ha).2)⟩
  · rw [if_neg h]; exact fun a ha => ⟨(kt h a ha).1, VB.ifc .le hd ht hf (¬ J 0 < x) (by rw [J0]; exact int_le) (fun _ => (kt h a ha).2) (fun n => absurd h n)⟩
theorem sim_oc2 {o : Option Nat} {f : Nat → Option α} (kn : o = none → SimK B pc L (.null :: st) S v t ρ) (ks : ∀ x, o = some x → SimK B pc L (.ref x :: st) S v (f x) ρ) : SimK B pc L (va_rf o :: st) S v (oc2 o t f) ρ := by
  cases o with
  | none => exact kn rfl
  | some x => exact ks x rfl
theorem sim_ifnullN {o : Int} {tg : Nat} (hd : decode (bC B) pc = .ok (.ifnull o, 3)) (ht : (pc : Int) + o = (tg : Int)) (k : SimK B tg L st S v t ρ) : SimK B pc L (.null :: st) S v t ρ :=
  fun a ha => ⟨(k a ha).1, VB.ifnull (x := none) hd ht rfl (fun _ => (k a ha).2) (fun b h => by cases h)⟩
theorem sim_ifnullS {o : Int} {x f : Nat} (hd : decode (bC B) pc = .ok (.ifnull o, 3)) (hf : pc + 3 = f) (k : SimK B f L st S v t ρ) : SimK B pc L (.ref x :: st) S v t ρ := by
  subst hf
  intro a ha
  refine ⟨(k a ha).1, ?_⟩
  intro p l e E s m args below meth c n0 z0 mc ms C htb h1 h2 H locs cells slots ls hr hl hf hc hz
  exact lv_ifnull C.1.1 C.1.2.1 hd ((k a ha).2 p l e E s m args below meth c n0 z0 mc ms C htb h1 h2 H locs cells slots ls hr hl hf hc hz)
theorem sim_ifnonnullN {o : Int} {f : Nat} (hd : decode (bC B) pc = .ok (.ifnonnull o, 3)) (hf : pc + 3 = f) (k : SimK B f L st S v t ρ) : SimK B pc L (.null :: st) S v t ρ := by
  subst hf
  intro a ha
  refine ⟨(k a ha).1, ?_⟩
  intro p l e E s m args below meth c n0 z0 mc ms C htb h1 h2 H locs cells slots ls hr hl hf hc hz
  exact lv_ifnonnullN C.1.1 C.1.2.1 hd ((k a ha).2 p l e E s m args below meth c n0 z0 mc ms C htb h1 h2 H locs cells slots ls hr hl hf hc hz)
theorem sim_ifnonnullS {o : Int} {x tg : Nat} (hd : decode (bC B) pc = .ok (.ifnonnull o, 3)) (ht : (pc : Int) + o = (tg : Int)) (k : SimK B tg L st S v t ρ) : SimK B pc L (.ref x :: st) S v t ρ := by
  intro a ha
  refine ⟨(k a ha).1, ?_⟩
  intro p l e E s m args below meth c n0 z0 mc ms C htb h1 h2 H locs cells slots ls hr hl hf hc hz
  exact lv_ifnonnull C.1.1 C.1.2.1 hd ht ((k a ha).2 p l e E s m args below meth c n0 z0 mc ms C htb h1 h2 H locs cells slots ls hr hl hf hc hz)
-- ends
theorem sim_vret {b : α} (hd : decode (bC B) pc = .ok (.return_, 1)) (hR : bR B = none) (hb : ρ b = (.inr none, S, v)) : SimK B pc L [] S v (some b) ρ := by
  rintro a ⟨⟩
  rw [hb]
  exact ⟨le2.rf S, VB.vret hd hR⟩
theorem sim_iret {b : α} {x : Int32} {ty : FieldType} (hd : decode (bC B) pc = .ok (.ireturn, 1)) (hR : bR B = some ty) (hn : narrow ty (.int x) = .int x) (hb : ρ b = (.inr (some (.int x)), S, v)) : SimK B pc L [.int x] S v (some b) ρ := by
  rintro a ⟨⟩
  rw [hb]
  exact ⟨le2.rf S, VB.iret hd hR hn⟩
theorem sim_aretS {b : α} {x : Nat} {ty : FieldType} (hd : decode (bC B) pc = .ok (.areturn, 1)) (hR : bR B = some ty) (hn : (∃ n, ty = .object n) ∨ ∃ t, ty = .array t) (hb : ρ b = (.inr (some (.ref x)), S, v)) : SimK B pc L [.ref x] S v (some b) ρ := by
  rintro a ⟨⟩
  rw [hb]
  exact ⟨le2.rf S, VB.aret (x := some x) hd hR hn⟩
theorem sim_aretN {b : α} {ty : FieldType} (hd : decode (bC B) pc = .ok (.areturn, 1)) (hR : bR B = some ty) (hn : (∃ n, ty = .object n) ∨ ∃ t, ty = .array t) (hb : ρ b = (.inr (some .null), S, v)) : SimK B pc L [.null] S v (some b) ρ := by
  rintro a ⟨⟩
  rw [hb]
  exact ⟨le2.rf S, VB.aret (x := none) hd hR hn⟩
theorem sim_dret {b : α} {x : UInt64} (hd : decode (bC B) pc = .ok (.dreturn, 1)) (hR : bR B = some .double) (hb : ρ b = (.inr (some (.double x)), S, v)) : SimK B pc L [.double x] S v (some b) ρ := by
  rintro a ⟨⟩
  rw [hb]
  exact ⟨le2.rf S, VB.dret hd hR⟩
theorem sim_fret {b : α} {x : UInt32} (hd : decode (bC B) pc = .ok (.freturn, 1)) (hR : bR B = some .float) (hb : ρ b = (.inr (some (.float x)), S, v)) : SimK B pc L [.float x] S v (some b) ρ := by
  rintro a ⟨⟩
  rw [hb]
  exact ⟨le2.rf S, VB.fret hd hR⟩
theorem sim_lret {b : α} {x : Int64} (hd : decode (bC B) pc = .ok (.lreturn, 1)) (hR : bR B = some .long) (hb : ρ b = (.inr (some (.long x)), S, v)) : SimK B pc L [.long x] S v (some b) ρ := by
  rintro a ⟨⟩
  rw [hb]
  exact ⟨le2.rf S, VB.lret hd hR⟩
theorem le2_skip {n : Nat} : le2 S (skip S n) := ⟨rfl, rfl, Nat.le_succ _, Nat.le_add_right _ _, fun _ _ h => h⟩
theorem le2_grow {k : kd} {n : Nat} (h : kin S (nxt S) = none) : le2 S (grow S k n) := ⟨rfl, rfl, Nat.le_succ _, Nat.le_add_right _ _, fun b k' hb => by
  show (if b = nxt S then some k else S.1 b) = some k'
  by_cases hn : b = nxt S
  · subst hn; rw [h] at hb; cases hb
  · rw [if_neg hn]; exact hb⟩
theorem le2_sr {k : Nat} {x : Option Nat} : le2 S (sr S a k x) := ⟨rfl, rfl, Nat.le_refl _, Nat.le_refl _, fun _ _ h => h⟩
theorem sim_throw {b : α} {k0 ik ic : Nat} (hw : thrOK k0 ik ic) (ho : bO B = 5) (hH : bH B = []) (hL : 6 ≤ bL B) (d0 : decode (bC B) pc = .ok (.new ik, 3)) (d3 : decode (bC B) (pc + 3) = .ok (.dup, 1)) (d4 : decode (bC B) (pc + 4) = .ok (.invokespecial ic, 3)) (d7 : decode (bC B) (pc + 7) = .ok (.athrow, 1))
    (hW : (st.map fun x => x.category).sum ≤ 8) (hb : ρ b = (.inl k0, skip S 6, v)) : SimK B pc L st S v (some b) ρ := by
  rintro a ⟨⟩
  rw [hb]
  exact ⟨le2_skip, VB.throw hw ho hH hL d0 d3 d4 d7 hW⟩
-- calls
/-- a callee of which every result is an answer -/
theorem sim_call {F : Option β} {ρ' : β → rs} {vs : List Value} {f : β → Option α} (hok : SimK B' 0 (entB (bN B') vs) [] S v F ρ') (hB : wfB B') (hlt : (entL vs).length ≤ bN B') (hfit : fitB B B') (run : ∀ r', RunOK B B' pc st rest vs S v r')
    (k : ∀ b, F = some b → ∃ x, (ρ' b).1 = .inr x ∧ SimK B (pc + 3) L (x.toList ++ rest) (ρ' b).2.1 (ρ' b).2.2 (f b) ρ) : SimK B pc L st S v (F.bind f) ρ := by
  refine sim_bind fun b hb => ?_
  obtain ⟨x, hx, hk⟩ := k b hb
  intro a ha
  obtain ⟨g1, g2⟩ := hok b hb
  obtain ⟨g3, g4⟩ := hk a ha
  exact ⟨g1.tr g3, VB.call g1 g3 hx hlt hB g2 hfit (run _) g4⟩
/-- a callee that may throw; nobody catches here -/
theorem sim_callx {X : Type} {F : Option (Nat ⊕ X)} {ρ' : Nat ⊕ X → rs} {vs : List Value} {thr : Nat → Option α} {f : X → Option α} (hok : SimK B' 0 (entB (bN B') vs) [] S v F ρ') (hB : wfB B') (hlt : (entL vs).length ≤ bN B') (hfit : fitB B B') (run : ∀ r', RunOK B B' pc st rest vs S v r') (hH : bH B = [])
    (kt : ∀ k0, F = some (.inl k0) → (ρ' (.inl k0)).1 = .inl k0 ∧ ∀ a, thr k0 = some a → ρ a = ρ' (.inl k0))
    (k : ∀ b, F = some (.inr b) → ∃ x, (ρ' (.inr b)).1 = .inr x ∧ SimK B (pc + 3) L (x.toList ++ rest) (ρ' (.inr b)).2.1 (ρ' (.inr b)).2.2 (f b) ρ) : SimK B pc L st S v (bx F thr f) ρ := by
  intro a ha
  cases hF : F with
  | none => rw [hF] at ha; cases ha
  | some b =>
    obtain ⟨g1, g2⟩ := hok b hF
    cases b with
    | inl k0 =>
      rw [hF] at ha
      obtain ⟨h1, h2⟩ := kt k0 hF
      rw [h2 a ha]
      exact ⟨g1, VB.callx g1 h1 hlt hB g2 hfit (run _) hH⟩
    | inr b =>
      rw [hF] at ha
      obtain ⟨x, hx, hk⟩ := k b hF
      obtain ⟨g3, g4⟩ := hk a ha
      exact ⟨g1.tr g3, VB.call g1 g3 hx hlt hB g2 hfit (run _) g4⟩
theorem kin_alen {t n : Nat} (h : kin S a = some (t, n)) : kin S a = some (t, alen S a) := by rw [alen_of h]; exact h
theorem vin_J {t n : Nat} {z : Int} (h : kin S a = some (t, n)) (hz : vp_in (J z) n) : vp_in (J z) (alen S a) := by rw [alen_of h]; exact hz
end SIM
