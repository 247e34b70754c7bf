/-! The kinds of calls: how each one's run comes out of the callee's contract. -/
def RunOK (B B' : bd) (pc : Nat) (st rest vs : List Value) (S : shp) (v : vl) (r' : rs) : Prop :=
  ∀ (p : Program) (l : Launch) (e : Env) (E : env) (s : State) (m : MethodId) (args : Array Value) (below : List Frame) (meth : Method) (c : Code) (mc ms mc' ms' cells slots : Nat) (H : Heap) (locs : List Loc) (ls : Array Slot), mcx B p l s m args meth c E → tb E S s → rel E S v s H → ls.size = bN B →
      vx_Met l (bY B') (codeW B' :: WS) (rmB (bL B') mc' ms') (va_Pc vs (fun U => rel E S v U U.heap ∧ tb E S U)) (qc E r') (xc E r') mc' ms' (outA E) → cells + mc' ≤ mc ∧ slots + ms' ≤ ms → (∀ U : State, U.heap = H → s.WarmedH U.vm → (va_Pc vs (fun U => rel E S v U U.heap ∧ tb E S U)) vs.toArray U) →
      vx_Run p l e (rmB (bL B) mc ms) s m args below meth c H locs cells slots mc' ms' (F0 m pc ls st) rest (qc E r' vs.toArray) (xc E r') (outA E)
section KINDS
variable {B B' : bd} {pc idx : Nat} {rest As : List Value} {S : shp} {v : vl} {r' : rs} {a : Nat}
theorem pc_blind {vs : List Value} {E : env} : FrameBlind (va_Pc vs (fun U => rel E S v U U.heap ∧ tb E S U)) := by
  rintro ar U g mk ⟨h1, h2, h3⟩
  exact ⟨h1, h2.moved (t := U.calling g mk ar) (Vm.Alike.refl U.vm), h3.warm (U := U.calling g mk ar) (State.WarmedH.refl U)⟩
theorem ws_warm {s : State} {args : Array Value} (hB : wfB B') (hts : ∀ w, w ∈ tb2 → goodWord w = true → w.before args s = true) : ∀ w ∈ codeW B' :: WS, ∀ (a' : Array Value) (U : State), s.WarmedH U.vm → w.before a' U = true := by
  intro w hw a' U hW
  rcases List.mem_cons.mp hw with rfl | h
  · exact word_at hW (good_of_word hB.2.2.2.1) (hts _ hB.2.2.1 hB.2.2.2.1)
  · exact word_at hW (good_of_word (WS_of h).2) (hts _ (WS_of h).1 (WS_of h).2)
/-- how many arguments a body takes -/
def nar (B : bd) (n : Nat) : Prop := (parseMethodDescriptor (bY B).desc).map (fun d => d.parameters.length) = some n
theorem nar.use {n : Nat} (h : nar B' n) : ∀ sig, parseMethodDescriptor (bY B').desc = some sig → n = sig.parameters.length := by
  intro sig hs
  unfold nar at h
  rw [hs] at h
  exact (Option.some.inj h).symm
theorem callB_ok {p : Program} {l : Launch} {s : State} {m : MethodId} {args : Array Value} {meth : Method} {c : Code} {E : env} {mc ms mc' ms' n : Nat} (hB : wfB B') (hH : bH B' = []) (hf : fitB B B') (C : mcx B p l s m args meth c E) (hlk : Cond.methodLink (owns (bO B)) idx (bY B') ∈ tb2) (hn : nar B' n) :
    CallB (rmB (bL B) mc ms) s args (owns (bO B)) idx (bY B') (bC B') (bN B') (bR B') (codeW B' :: WS) (rmB (bL B') mc' ms') mc' ms' n := by
  obtain ⟨⟨hx, hb, hown, hts, hK⟩, -⟩ := C
  have hw : codeW B' = .code (bY B') (bC B') (bN B') (bR B') := by unfold codeW; rw [hH]
  obtain ⟨g1, g2⟩ := room_ok (mc := mc) (ms := ms) (mc' := mc') (ms' := ms') hf
  exact ⟨rfl, rfl, g1, g2, ws_warm hB hts, by rw [hw]; exact List.mem_cons_self, by rw [← hw]; exact hts _ hB.2.2.1 hB.2.2.2.1, hts _ hB.2.2.2.2.1 rfl, hB.2.2.2.2.2.1, hn.use, hts _ hlk rfl⟩
theorem recv_ok {s : State} {E : env} {H : Heap} {ci : Nat} (hK : va_K E.1 clt [] s) (hr : rel E S v s H) (hk : kin S a = some (0, ci)) (hci : ci < 9) : ∃ cellB : Cell, H[a]? = some cellB ∧ cellB.vm.isStatics = false ∧ s.vm.findClass (fTN ci).2.2 = some cellB.cls := by
  obtain ⟨-, r, h1, cell, h2, h3, h4, -⟩ := hr.ob hk
  exact ⟨cell, h2, by rw [h4]; rfl, by rw [h3]; exact (hK.1 ci _ (clt_get hci)).2.1⟩
theorem run_V {ci n : Nat} (hB : wfB B') (hH : bH B' = []) (hf : fitB B B') (hlk : Cond.methodLink (owns (bO B)) idx (bY B') ∈ tb2) (hn : nar B' n) (hA : As.length = n) (hin : Cond.instanceMethod (bY B') ∈ tb2) (hci : ci < 9) (hcls : (fTN ci).2.2 = (bY B').cls) (hse : Cond.selects (bY B').cls (bY B') (bY B') ∈ tb2)
    (hk : kin S a = some (0, ci)) (hd : decode (bC B) pc = .ok (.invokevirtual idx, 3)) (hW : (rest.map fun x => x.category).sum ≤ 8) : RunOK B B' pc (As.reverse ++ .ref a :: rest) rest (.ref a :: As) S v r' := by
  intro p l e E s m args below meth c mc ms mc' ms' cells slots H locs ls C htb hr hls hM hfit hPc
  exact vx_runV (C := (bY B').cls) (nL := bN B) (Ts := []) (n := n) ⟨C.1.1, C.1.2.1, C.2.2.1, C.1.2.2.1, fun w h => by cases h⟩ hM ⟨callB_ok hB hH hf C hlk hn, C.1.2.2.2.1 _ hin rfl, C.1.2.2.2.1 _ hse rfl⟩ ⟨pc_blind, by rw [← hcls]; exact recv_ok htb.1 hr hk hci, hPc⟩ rfl hA hls rfl (lv_room hW) hd hfit
theorem run_Vs {n k : Nat} (hB : wfB B') (hH : bH B' = []) (hf : fitB B B') (hlk : Cond.methodLink (owns (bO B)) idx (bY B') ∈ tb2) (hn : nar B' n) (hA : As.length = n) (hin : Cond.instanceMethod (bY B') ∈ tb2) (hcls : (bY B').cls = "java/lang/String") (hse : Cond.selects (bY B').cls (bY B') (bY B') ∈ tb2)
    (hk : kin S a = some (20, k)) (hd : decode (bC B) pc = .ok (.invokevirtual idx, 3)) (hW : (rest.map fun x => x.category).sum ≤ 8) : RunOK B B' pc (As.reverse ++ .ref a :: rest) rest (.ref a :: As) S v r' := by
  intro p l e E s m args below meth c mc ms mc' ms' cells slots H locs ls C htb hr hls hM hfit hPc
  obtain ⟨hlt, -, -, cell, g1, g2, g3, -⟩ := hr.cs hk
  exact vx_runV (C := (bY B').cls) (nL := bN B) (Ts := []) (n := n) ⟨C.1.1, C.1.2.1, C.2.2.1, C.1.2.2.1, fun w h => by cases h⟩ hM ⟨callB_ok hB hH hf C hlk hn, C.1.2.2.2.1 _ hin rfl, C.1.2.2.2.1 _ hse rfl⟩ ⟨pc_blind, ⟨cell, (hr.2.2.1 a hlt).trans g1, g2, by rw [hcls]; exact g3⟩, hPc⟩ rfl hA hls rfl (lv_room hW) hd hfit
theorem run_S {n : Nat} (hB : wfB B') (hH : bH B' = []) (hf : fitB B B') (hlk : Cond.methodLink (owns (bO B)) idx (bY B') ∈ tb2) (hn : nar B' n) (hA : As.length = n) (hst : Cond.static (bY B') ∈ tb2)
    (hd : decode (bC B) pc = .ok (.invokestatic idx, 3)) (hW : (rest.map fun x => x.category).sum ≤ 8) : RunOK B B' pc (As.reverse ++ rest) rest As S v r' := by
  intro p l e E s m args below meth c mc ms mc' ms' cells slots H locs ls C htb hr hls hM hfit hPc
  exact vx_runS (nL := bN B) (Ts := []) (n := n) ⟨C.1.1, C.1.2.1, C.2.2.1, C.1.2.2.1, fun w h => by cases h⟩ hM ⟨callB_ok hB hH hf C hlk hn, C.1.2.2.2.1 _ hst rfl⟩ ⟨pc_blind, hPc⟩ rfl hA hls rfl (lv_room hW) hd hfit
theorem run_I {n : Nat} (hB : wfB B') (hH : bH B' = []) (hR : bR B' = none) (hf : fitB B B') (hlk : Cond.methodLink (owns (bO B)) idx (bY B') ∈ tb2) (hn : nar B' n) (hA : As.length = n) (hin : Cond.instanceMethod (bY B') ∈ tb2) (hy : (bY B').name = "<init>")
    (hd : decode (bC B) pc = .ok (.invokespecial idx, 3)) (hW : (rest.map fun x => x.category).sum ≤ 8) : RunOK B B' pc (As.reverse ++ .ref a :: rest) rest (.ref a :: As) S v r' := by
  intro p l e E s m args below meth c mc ms mc' ms' cells slots H locs ls C htb hr hls hM hfit hPc
  have hcb := callB_ok (mc := mc) (ms := ms) (mc' := mc') (ms' := ms') hB hH hf C hlk hn
  rw [hR] at hcb
  exact vx_runI (nL := bN B) (Ts := []) (n := n) ⟨C.1.1, C.1.2.1, C.2.2.1, C.1.2.2.1, fun w h => by cases h⟩ hM ⟨hcb, hy, C.1.2.2.2.1 _ hin rfl⟩ ⟨pc_blind, hPc⟩ rfl hA hls rfl (lv_room hW) hd hfit
theorem callN_ok {p : Program} {l : Launch} {s : State} {m : MethodId} {args : Array Value} {meth : Method} {c : Code} {E : env} {mc ms mc' ms' n : Nat} {host : String} (hB : wfB B') (hH : bH B' = []) (hf : fitB B B') (C : mcx B p l s m args meth c E) (htb : tb E S s) (hlk : Cond.methodLinkNest (owns (bO B)) idx (bY B') host ∈ nbw) (hn : nar B' n) :
    va_CN (rmB (bL B) mc ms) s args (owns (bO B)) idx (bY B') host (bC B') (bN B') (bR B') (codeW B' :: WS) (rmB (bL B') mc' ms') mc' ms' n := by
  obtain ⟨⟨hx, hb, hown, hts, hK⟩, -⟩ := C
  have hw : codeW B' = .code (bY B') (bC B') (bN B') (bR B') := by unfold codeW; rw [hH]
  obtain ⟨g1, g2⟩ := room_ok (mc := mc) (ms := ms) (mc' := mc') (ms' := ms') hf
  exact ⟨⟨rfl, rfl, g1, g2, ws_warm hB hts, by rw [hw]; exact List.mem_cons_self⟩, by rw [← hw]; exact hts _ hB.2.2.1 hB.2.2.2.1, hts _ hB.2.2.2.2.1 rfl, hB.2.2.2.2.2.1, hn.use, va_Nw.use rfl (htb.2.1 _ hlk)⟩
theorem run_SN {n : Nat} {host : String} (hB : wfB B') (hH : bH B' = []) (hf : fitB B B') (hlk : Cond.methodLinkNest (owns (bO B)) idx (bY B') host ∈ nbw) (hn : nar B' n) (hA : As.length = n) (hst : Cond.static (bY B') ∈ tb2)
    (hd : decode (bC B) pc = .ok (.invokestatic idx, 3)) (hW : (rest.map fun x => x.category).sum ≤ 8) : RunOK B B' pc (As.reverse ++ rest) rest As S v r' := by
  intro p l e E s m args below meth c mc ms mc' ms' cells slots H locs ls C htb hr hls hM hfit hPc
  exact vx_runSN (nL := bN B) (Ts := []) (n := n) ⟨C.1.1, C.1.2.1, C.2.2.1, C.1.2.2.1, fun w h => by cases h⟩ hM ⟨callN_ok hB hH hf C htb hlk hn, C.1.2.2.2.1 _ hst rfl, trivial⟩ ⟨pc_blind, hPc⟩ rfl hA hls rfl (lv_room hW) hd hfit
theorem run_IN {n : Nat} {host : String} (hB : wfB B') (hH : bH B' = []) (hR : bR B' = none) (hf : fitB B B') (hlk : Cond.methodLinkNest (owns (bO B)) idx (bY B') host ∈ nbw) (hn : nar B' n) (hA : As.length = n) (hin : Cond.instanceMethod (bY B') ∈ tb2) (hy : (bY B').name = "<init>")
    (hd : decode (bC B) pc = .ok (.invokespecial idx, 3)) (hW : (rest.map fun x => x.category).sum ≤ 8) : RunOK B B' pc (As.reverse ++ .ref a :: rest) rest (.ref a :: As) S v r' := by
  intro p l e E s m args below meth c mc ms mc' ms' cells slots H locs ls C htb hr hls hM hfit hPc
  have hcb := callN_ok (mc := mc) (ms := ms) (mc' := mc') (ms' := ms') hB hH hf C htb hlk hn
  rw [hR] at hcb
  exact vx_runIN (nL := bN B) (Ts := []) (n := n) ⟨C.1.1, C.1.2.1, C.2.2.1, C.1.2.2.1, fun w h => by cases h⟩ hM ⟨hcb, hy, C.1.2.2.2.1 _ hin rfl⟩ ⟨pc_blind, hPc⟩ rfl hA hls rfl (lv_room hW) hd hfit
theorem run_SX {n : Nat} (hB : wfB B') (hH : bH B' ≠ []) (hf : fitB B B') (hlk : Cond.methodLink (owns (bO B)) idx (bY B') ∈ tb2) (hn : nar B' n) (hA : As.length = n) (hst : Cond.static (bY B') ∈ tb2)
    (hd : decode (bC B) pc = .ok (.invokestatic idx, 3)) (hW : (rest.map fun x => x.category).sum ≤ 8) : RunOK B B' pc (As.reverse ++ rest) rest As S v r' := by
  intro p l e E s m args below meth c mc ms mc' ms' cells slots H locs ls C htb hr hls hM hfit hPc
  obtain ⟨⟨hx, hb, hown, hts, hK⟩, hC2⟩ := id C
  have hw : codeW B' = .codeWith (bY B') (bC B') (bN B') (bR B') (bH B') := by
    unfold codeW
    cases hh : bH B' with
    | nil => exact absurd hh hH
    | cons x xs => rfl
  obtain ⟨g1, g2⟩ := room_ok (mc := mc) (ms := ms) (mc' := mc') (ms' := ms') hf
  exact vx_runSX (hh := bH B') (bytes := bC B') (maxL := bN B') (ret := bR B') (nL := bN B) (Ts := []) (n := n) ⟨hx, hb, C.2.2.1, hown, fun w h => by cases h⟩ hM ⟨⟨rfl, rfl, g1, g2, ws_warm hB hts, by rw [hw]; exact List.mem_cons_self⟩, by rw [← hw]; exact hts _ hB.2.2.1 hB.2.2.2.1, hts _ hB.2.2.2.2.1 rfl, hB.2.2.2.2.2.1, hn.use, hts _ hlk rfl, hts _ hst rfl⟩ ⟨pc_blind, hPc⟩ rfl hA hls rfl (lv_room hW) hd hfit
end KINDS
