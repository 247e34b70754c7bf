/-! Rules: stores into rows of references, statics, texts, copies, throws and catches. -/
section HEAPS2
variable {B B' : bd} {pc idx : Nat} {L : lo} {st rest As : List Value} {S : shp} {v : vl} {r r' : rs} {a : Nat}
theorem aval_sr {t a k j : Nat} {y : Option Nat} (ht : t = 3 ∨ t = 4) : updV (aval S v t a) k (va_rf y) j = aval (sr S a k y) v t a j := by
  have h : gr (sr S a k y) a j = if j = k then y else gr S a j := by
    show up2 S.2.1 a k y a j = _
    unfold up2
    by_cases hj : j = k
    · rw [if_pos hj, if_pos ⟨rfl, hj⟩]
    · rw [if_neg hj, if_neg (fun h => hj h.2)]
      rfl
  have e : ∀ w : shp, aval w v t a j = va_rf (gr w a j) := by
    intro w
    rcases ht with rfl | rfl <;> rfl
  unfold updV
  rw [e, e, h]
  by_cases hj : j = k
  · rw [if_pos hj, if_pos hj]
  · rw [if_neg hj, if_neg hj]
/-- a store of an object into a row: t: 3 states (class 4), 4 measurements (class 1) -/
theorem VB.aast {t x ci : Nat} {i : Int32} (ht : (t = 3 ∧ ci = 4) ∨ (t = 4 ∧ ci = 1)) (hd : decode (bC B) pc = .ok (.aastore, 1)) (hk : kin S a = some (t + 1, alen S a)) (hin : vp_in i (alen S a)) (hx1 : kin S x = some (0, ci))
    (kk : VB B (pc + 1) L st (sr S a i.toNatClampNeg (some x)) v r) : VB B pc L (.ref x :: .int i :: .ref a :: st) S v r := by
  intro p l e E s m args below meth c n0 z0 mc ms C htb h1 h2 H locs cells slots ls hr hl hf hc hz
  obtain ⟨⟨hx, hb, hown, hts, hK⟩, hC2⟩ := id C
  have ht2 : t = 3 ∨ t = 4 := ht.elim (fun h => Or.inl h.1) (fun h => Or.inr h.1)
  obtain ⟨hba, cA, g1, g2, g3⟩ := hr.ar hk (by omega)
  have hbE : E.2.size ≤ a := by rw [← hr.1]; exact hba
  have hlt : i.toNatClampNeg < alen S a := Nat.not_le.mp fun q => hin (Or.inr q)
  have h0 : ¬ i < 0 := fun q => hin (Or.inl q)
  obtain ⟨-, rr, u1, cellV, u2, u3, u4, -⟩ := hr.ob hx1
  have hci : ci < 9 := by omega
  have hcls := (hK.1 ci _ (clt_get hci)).2
  have hat : aty t = .object (fTN ci).2.2 := by rcases ht with ⟨rfl, rfl⟩ | ⟨rfl, rfl⟩ <;> rfl
  rw [hat] at g3
  obtain ⟨kA, comp, k1, k2, k3, k4⟩ := g3
  have hcomp : comp = E.1.1 ci := Option.some.inj (k3.symm.trans hcls.1)
  subst hcomp
  obtain ⟨kC, hkC, -⟩ := hcls.2
  refine W.aast hx hb g1 (fun q h => by cases h) (fun h => by cases h) k1 k2 rfl hkC ⟨h0, by rw [arrV_size]; exact hlt⟩ u2 (fun q h => by rw [u4] at h; cases h) (by rw [u3]; exact hkC) (by rw [u3]; exact va_assign hcls) rfl rfl hd fun H1 e1 e2 e3 => ?_
  refine kk p l e E s m args below meth c n0 z0 mc ms C (htb.kad rfl) h1 h2 H1 _ cells slots ls (hr.mono hk (by show t + 1 < 10; omega) ⟨rfl, rfl⟩ e2 e3 (fun b j hb => ⟨rfl, rfl, ?_⟩) (Or.inr ⟨t, rfl, by omega, cA, ?_, g2, by rw [hat]; exact ⟨kA, _, k1, k2, k3, k4⟩⟩)) hl (fun q hq => ?_) hc hz
  · show up2 S.2.1 a _ _ b j = S.2.1 b j
    unfold up2
    rw [if_neg (fun h => hb h.1)]
  · rw [e1, arrV_store]
    exact congrArg (fun f => some (arrV cA (alen S a) f)) (funext fun j => aval_sr (y := some x) ht2)
  · rcases List.mem_append.mp hq with h | h
    · exact hf q h
    · rw [List.mem_singleton] at h; subst h; exact hbE
/-- a store of null into a row of measurements -/
theorem VB.aastN {i : Int32} (hd : decode (bC B) pc = .ok (.aastore, 1)) (hk : kin S a = some (5, alen S a)) (hin : vp_in i (alen S a))
    (kk : VB B (pc + 1) L st (sr S a i.toNatClampNeg none) v r) : VB B pc L (.null :: .int i :: .ref a :: st) S v r := by
  intro p l e E s m args below meth c n0 z0 mc ms C htb h1 h2 H locs cells slots ls hr hl hf hc hz
  obtain ⟨⟨hx, hb, hown, hts, hK⟩, hC2⟩ := id C
  obtain ⟨hba, cA, g1, g2, g3⟩ := hr.ar (t := 4) hk (by omega)
  have hbE : E.2.size ≤ a := by rw [← hr.1]; exact hba
  refine va_WaastN (C := RX1) hx hb g1 (g2 _ _) (fun h => by cases h) (by rw [arrV_size]; exact hin) rfl rfl hd fun H1 e1 e2 e3 => ?_
  refine kk p l e E s m args below meth c n0 z0 mc ms C (htb.kad rfl) h1 h2 H1 _ cells slots ls (hr.mono hk (by simp) ⟨rfl, rfl⟩ e2 e3 (fun b j hb => ⟨rfl, rfl, ?_⟩) (Or.inr ⟨4, rfl, by omega, cA, ?_, g2, g3⟩)) hl (fun q hq => ?_) hc hz
  · show up2 S.2.1 a _ _ b j = S.2.1 b j
    unfold up2
    rw [if_neg (fun h => hb h.1)]
  · rw [e1, arrV_store]
    exact congrArg (fun f => some (arrV cA (alen S a) f)) (funext fun j => aval_sr (y := none) (Or.inr rfl))
  · rcases List.mem_append.mp hq with h | h
    · exact hf q h
    · rw [List.mem_singleton] at h; subst h; exact hbE
/-- the state's heap still holds what was there at the start -/
theorem cxt_S {E : env} {s : State} {H : Heap} {locs : List Loc} {p : Program} {l : Launch} {m : MethodId} {args : Array Value} {meth : Method} {c : Code} (C : mcx B p l s m args meth c E) (hr : rel E S v s H) (hf : ∀ q ∈ locs, E.2.size ≤ q.base) : va_S (outA E) E.2 H locs :=
  ⟨by have := hr.1; have := hr.2.1; omega, fun q h1 h2 => hr.2.2.1 q (by rw [hr.1]; exact h1), hf⟩
/-- a static field that holds a known number or row -/
theorem VB.gets {k : Nat} (hk : k < 4) (hd : decode (bC B) pc = .ok (.getstatic idx, 3)) (hlk : Cond.fieldLink (owns (bO B)) idx (stat S k).1 (stat S k).2.1 (stat S k).2.2.1 ∈ tb2) (kk : VB B (pc + 3) L ((stat S k).2.2.2 :: st) S v r) : VB B pc L st S v r := by
  intro p l e E s m args below meth c n0 z0 mc ms C htb h1 h2 H locs cells slots ls hr hl hf hc hz
  obtain ⟨⟨hx, hb, hown, hts, hK⟩, hC2⟩ := id C
  obtain ⟨cf, kf, fi, f, a0, cell, g1, g2, g3, g4, g5, g6, g7, g8⟩ := htb.2.2.1 k hk
  exact W.gets hx hb hown (hts _ hlk rfl) g1 g2 g3 g4 (by rw [hr.2.2.1 a0 (by rw [hr.1]; exact (Array.getElem?_eq_some_iff.mp g5).1)]; exact g5) (fun e => by rw [e] at g6; cases g6) g7 rfl hd (kk p l e E s m args below meth c n0 z0 mc ms C htb h1 h2 H locs cells slots ls hr hl hf hc hz)
/-- the formatter that nobody asks -/
theorem VB.getf (hd : decode (bC B) pc = .ok (.getstatic idx, 3)) (hlk : Cond.fieldLink (owns (bO B)) idx "jdk/internal/util/Preconditions" "SIOOBE_FORMATTER" "Ljava/util/function/BiFunction;" ∈ tb2) (kk : ∀ o : Option Nat, VB B (pc + 3) L (va_rf o :: st) S v r) : VB B pc L st S v r := by
  intro p l e E s m args below meth c n0 z0 mc ms C htb h1 h2 H locs cells slots ls hr hl hf hc hz
  obtain ⟨⟨hx, hb, hown, hts, hK⟩, hC2⟩ := id C
  have go : ∀ o : Option Nat, va_Z "jdk/internal/util/Preconditions" "SIOOBE_FORMATTER" "Ljava/util/function/BiFunction;" (va_rf o) (outA E) s E.2 → W p l e (rmB (bL B) mc ms) s m args below meth c H locs cells slots (vx_MQ below (qc E r) (xc E r) args s mc ms (outA E)) (F0 m pc ls st) := by
    intro o hZ
    obtain ⟨cf, kf, fi, f, a0, cell, g1, g2, g3, g4, g5, g6, g7, g8⟩ := hZ
    exact W.gets hx hb hown (hts _ hlk rfl) g1 g2 g3 g4 (by rw [hr.2.2.1 a0 (by rw [hr.1]; exact (Array.getElem?_eq_some_iff.mp g5).1)]; exact g5) (fun e => by rw [e] at g6; cases g6) g7 rfl hd (kk o p l e E s m args below meth c n0 z0 mc ms C htb h1 h2 H locs cells slots ls hr hl hf hc hz)
  rcases htb.2.2.2.1 with h | ⟨t, h⟩
  · exact go none h
  · exact go (some t) h
/-- a constant text -/
theorem VB.ldcs {tx : String} {j : Nat} (hd : decode (bC B) pc = .ok (.ldc idx, 2)) (hq : (owns (bO B), idx, tx, j) ∈ strs) (kk : VB B (pc + 2) L (.ref (kad S j) :: st) S v r) : VB B pc L st S v r := by
  intro p l e E s m args below meth c n0 z0 mc ms C htb h1 h2 H locs cells slots ls hr hl hf hc hz
  obtain ⟨⟨hx, hb, hown, hts, hK⟩, hC2⟩ := id C
  have h7 := htb.2.2.2.2.2.2.1
  generalize strs = zs at hq h7
  have h8 := h7 _ hq
  dsimp only at h8
  exact va_ldcS hx hb hown h8 hd (kk p l e E s m args below meth c n0 z0 mc ms C htb h1 h2 H locs cells slots ls hr hl hf hc hz)
/-- fields of a constant text: k: 0, its row; 1, its coder -/
theorem VB.gett {k n : Nat} (hk2 : k < 2) (hk : kin S a = some (20, n)) (hd : decode (bC B) pc = .ok (.getfield idx, 3)) (hlk : Cond.fieldLink (owns (bO B)) idx "java/lang/String" (if k = 0 then "value" else "coder") (if k = 0 then "[B" else "B") ∈ tb2) (kk : VB B (pc + 3) L ((if k = 0 then va_rf (gr S a 0) else .int (gi v a 1)) :: st) S v r) : VB B pc L (.ref a :: st) S v r := by
  intro p l e E s m args below meth c n0 z0 mc ms C htb h1 h2 H locs cells slots ls hr hl hf hc hz
  obtain ⟨⟨hx, hb, hown, hts, hK⟩, hC2⟩ := id C
  obtain ⟨hlt, hv, hcd, -⟩ := hr.cs hk
  have kW := kk p l e E s m args below meth c n0 z0 mc ms C htb h1 h2 H locs cells slots ls hr hl hf hc hz
  clear kk
  have go : ∀ {n d : String} {x : Value}, va_OF "java/lang/String" n d x a (fun q => E.2.size ≤ q) s E.2 → Cond.fieldLink (owns (bO B)) idx "java/lang/String" n d ∈ tb2 → W p l e (rmB (bL B) mc ms) s m args below meth c H locs cells slots (vx_MQ below (qc E r) (xc E r) args s mc ms (outA E)) (F0 m (pc + 3) ls (x :: st)) → W p l e (rmB (bL B) mc ms) s m args below meth c H locs cells slots (vx_MQ below (qc E r) (xc E r) args s mc ms (outA E)) (F0 m pc ls (.ref a :: st)) := by
    intro n d x hO hlk kW
    obtain ⟨cf, kf, fi, f, cell, g1, g2, g3, g4, g5, g6⟩ := hO
    exact W.getf hx hb hown (hts _ hlk rfl) g1 g2 (by rw [hr.2.2.1 a hlt]; exact g3) g4 g5 rfl rfl hd kW
  rcases (show k = 0 ∨ k = 1 by omega) with rfl | rfl
  · rw [if_pos rfl] at kW
    rw [if_pos rfl, if_pos rfl] at hlk
    exact go hv hlk kW
  · rw [if_neg (by decide)] at kW
    rw [if_neg (by decide), if_neg (by decide)] at hlk
    exact go hcd hlk kW
-- throws
def exns : List String := ["java/lang/RuntimeException", "java/lang/Exception"]
def thrOK (k0 ik ic : Nat) : Prop := (∀ w ∈ vx_at0 "GateCounter" ic (exn k0) exns, (w ∈ tb2 ∧ goodWord w = true) ∨ w ∈ nbw) ∧ Cond.classLink "GateCounter" ik (exn k0) ∈ tb2 ∧ Cond.initialized (exn k0) ∈ tb2 ∧ Bundle.fit (exn k0) = true ∧
  (∀ w ∈ Cond.classLink "GateCounter" ik (exn k0) :: Cond.initialized (exn k0) :: vx_at0 "GateCounter" ic (exn k0) exns, vx_ot w = true)
theorem VB.throw {k0 ik ic : Nat} (hw : thrOK k0 ik ic) (ho : bO B = 5) (hH : bH B = []) (hL : 6 ≤ bL B) (d0 : decode (bC B) pc = .ok (.new ik, 3)) (d3 : decode (bC B) (pc + 3) = .ok (.dup, 1)) (d4 : decode (bC B) (pc + 4) = .ok (.invokespecial ic, 3)) (d7 : decode (bC B) (pc + 7) = .ok (.athrow, 1))
    (hW : (st.map fun x => x.category).sum ≤ 8) : VB B pc L st S v (.inl k0, skip S 6, v) := by
  intro p l e E s m args below meth c n0 z0 mc ms C htb h1 h2 H locs cells slots ls hr hl hf hc hz
  obtain ⟨⟨hx, hb, hown, hts, hK⟩, hC2⟩ := id C
  obtain ⟨w1, w2, w3, w4, w5⟩ := hw
  have hown' : s.vm.findClass "GateCounter" = some m.cls := by rw [ho] at hown; exact hown
  have hsz : E.2.size ≤ s.heap.size := C.2.2.2.2.2.2.2.1
  have hag := C.2.2.2.2.2.2.2.2
  have q1 : mc + n0 = cn S + 1 := h1
  have q2 : ms + z0 = cz S + 6 := h2
  have hU : vx_Zq Bundle.tN "UNASSIGNED_STACK" Bundle.steD (outA E) s s.heap := htb.2.2.2.2.1.kept (fun a ha _ => hag a ha)
  have hN : vx_Zq Bundle.tN "SUPPRESSED_SENTINEL" Bundle.listD (outA E) s s.heap := htb.2.2.2.2.2.1.kept (fun a ha _ => hag a ha)
  intro T hT X
  have hTs : s.heap.size ≤ T.heap.size := X.same.2.1
  rw [hT] at hTs
  have hS : va_S (outA E) s.heap H locs := ⟨hTs, fun q g1 g2 => by
    have g3 : q < E.2.size := Nat.lt_of_not_le g2
    rw [hag q g3]
    exact hr.2.2.1 q (by rw [hr.1]; exact g3), hf⟩
  exact vy_throw0 (A := outA E) hx hb C.2.2.2.2.2.2.1 hown' w4 (by decide +kernel) (hts _ w2 rfl) (hts _ w3 rfl) (fun w h => by
      rcases w1 w h with ⟨g1, g2⟩ | g
      · exact hts w g1 g2
      · have g2 := htb.2.1 w g
        have g3 : w.onTables = true := by
          have : ∀ w ∈ nbw, w.onTables = true := by decide +kernel
          exact this w g
        exact va_Nw.use g3 g2) w5 hU hN hS (by rw [C.2.2.1]; exact hl.1) d0 d3 d4 d7 (fun x h => by rw [C.2.2.2.2.2.1, hH] at h; cases h) (by show 2 + 3 < bL B; omega) (by show _ + (13 * (2 + 1) + 42) ≤ 42 * bL B; omega) (by show cells + 1 ≤ mc; omega) (by show slots + 6 ≤ ms; omega) C.2.2.2.1
    (fun t hal hz2 hq2 => ⟨k0, rfl, rfl, (rel.skips hr hz2 hq2).moved hal⟩) hf (by omega) (by omega) T hT X
end HEAPS2
