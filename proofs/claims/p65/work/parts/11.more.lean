/-! More rules: inherited calls, new cells, stores of references, statics, texts, copies, throws. -/
section MORE
variable {B B' : bd} {pc idx : Nat} {L : lo} {st rest As : List Value} {S : shp} {v : vl} {r r' : rs} {a : Nat}
def selSB (y : MethodName) : Prop := ∀ (args : Array Value) (s : State), (∀ w, w ∈ tb2 → goodWord w = true → w.before args s = true) → (Cond.selects "java/lang/StringBuilder" y y).before args s = true
theorem run_U {n : Nat} (hB : wfB B') (hH : bH B' = []) (hf : fitB B B') (hlk : Cond.methodLink (owns (bO B)) idx (bY B') ∈ tb2) (hn : nar B' n) (hA : As.length = n) (hin : Cond.instanceMethod (bY B') ∈ tb2) (hse : selSB (bY B')) (hsm : Cond.sameMethod (bY B').cls (bY B').cls (bY B').name (bY B').desc ∈ tb2)
    (hk : kin S a = some (0, 7)) (hd : decode (bC B) pc = .ok (.invokevirtual idx, 3)) (hW : (rest.map fun x => x.category).sum ≤ 8) : RunOK B B' pc (As.reverse ++ .ref a :: rest) rest (.ref a :: As) S v r' := by
  intro p l e E s m args below meth c mc ms mc' ms' cells slots H locs ls C htb hr hls hM hfit hPc
  obtain ⟨⟨hx, hb, hown, hts, hK⟩, hC2⟩ := id C
  have hw : codeW B' = .code (bY B') (bC B') (bN B') (bR B') := by unfold codeW; rw [hH]
  obtain ⟨g1, g2⟩ := room_ok (mc := mc) (ms := ms) (mc' := mc') (ms' := ms') hf
  have hcode : (Cond.code (bY B') (bC B') (bN B') (bR B')).before args s = true := by rw [← hw]; exact hts _ hB.2.2.1 hB.2.2.2.1
  have hi := hts _ hin rfl
  refine vx_runU (C := "java/lang/StringBuilder") (owner := (bY B').cls) (x := bY B') (bytes := bC B') (maxL := bN B') (ret := bR B') (nL := bN B) (Ts := []) (n := n) ⟨hx, hb, C.2.2.1, hown, fun w h => by cases h⟩ hM
    ⟨⟨rfl, rfl, g1, g2, ws_warm hB hts, by rw [hw]; exact List.mem_cons_self⟩, hcode, hts _ hB.2.2.2.2.1 rfl, hB.2.2.2.2.2.1, hn.use, hts _ hlk rfl, hts _ hsm rfl, va_Decl.of hi hcode, hse args s hts, hi⟩
    ⟨pc_blind, recv_ok (ci := 7) htb.1 hr hk (by omega), hPc⟩ rfl hA hls rfl (lv_room hW) hd hfit
/-- a method that the receiver's class overrides -/
theorem run_O {x : MethodName} {bx : ByteArray} {mx : Nat} {rx : Option FieldType} {n : Nat} (hB : wfB B') (hH : bH B' = []) (hf : fitB B B') (hlk : Cond.methodLink (owns (bO B)) idx x ∈ tb2) (hn : nar B' n) (hxd : x.desc = (bY B').desc) (hA : As.length = n) (hin : Cond.instanceMethod (bY B') ∈ tb2) (hinx : Cond.instanceMethod x ∈ tb2) (hcx : Cond.code x bx mx rx ∈ tb2) (hcg : goodWord (Cond.code x bx mx rx) = true) (hse : Cond.selects "java/lang/StringBuilder" x (bY B') ∈ tb2) (hsm : Cond.sameMethod x.cls x.cls x.name x.desc ∈ tb2)
    (hmh : x.cls ≠ "java/lang/invoke/MethodHandle" ∧ x.cls ≠ "java/lang/invoke/VarHandle") (hk : kin S a = some (0, 7)) (hd : decode (bC B) pc = .ok (.invokevirtual idx, 3)) (hW : (rest.map fun x => x.category).sum ≤ 8) : RunOK B B' pc (As.reverse ++ .ref a :: rest) rest (.ref a :: As) S v r' := by
  intro p l e E s m args below meth c mc ms mc' ms' cells slots H locs ls C htb hr hls hM hfit hPc
  obtain ⟨⟨hx, hb, hown, hts, hK⟩, hC2⟩ := id C
  have hw : codeW B' = .code (bY B') (bC B') (bN B') (bR B') := by unfold codeW; rw [hH]
  obtain ⟨g1, g2⟩ := room_ok (mc := mc) (ms := ms) (mc' := mc') (ms' := ms') hf
  have hcode : (Cond.code (bY B') (bC B') (bN B') (bR B')).before args s = true := by rw [← hw]; exact hts _ hB.2.2.1 hB.2.2.2.1
  have hi := hts _ hin rfl
  refine vx_runU (C := "java/lang/StringBuilder") (owner := x.cls) (x := x) (bytes := bC B') (maxL := bN B') (ret := bR B') (nL := bN B) (Ts := []) (n := n) ⟨hx, hb, C.2.2.1, hown, fun w h => by cases h⟩ hM
    ⟨⟨rfl, rfl, g1, g2, ws_warm hB hts, by rw [hw]; exact List.mem_cons_self⟩, hcode, hts _ hB.2.2.2.2.1 rfl, hmh, by rw [hxd]; exact hn.use, hts _ hlk rfl, hts _ hsm rfl, va_Decl.of (hts _ hinx rfl) (hts _ hcx hcg), hts _ hse rfl, hi⟩
    ⟨pc_blind, recv_ok (ci := 7) htb.1 hr hk (by omega), hPc⟩ rfl hA hls rfl (lv_room hW) hd hfit
theorem run_SU {n : Nat} (hB : wfB B') (hH : bH B' = []) (hf : fitB B B') (ho : bO B = 7) (hlk : Cond.methodLink (owns (bO B)) idx (bY B') ∈ tb2) (hn : nar B' n) (hA : As.length = n) (hin : Cond.instanceMethod (bY B') ∈ tb2) (hsm : Cond.sameMethod (bY B').cls (bY B').cls (bY B').name (bY B').desc ∈ tb2)
    (hsu : Cond.superclass (owns (bO B)) (bY B').cls ∈ tb2) (hy : (bY B').name ≠ "<init>") (hk : kin S a = some (0, 7)) (hd : decode (bC B) pc = .ok (.invokespecial idx, 3)) (hW : (rest.map fun x => x.category).sum ≤ 8) : RunOK B B' pc (As.reverse ++ .ref a :: rest) rest (.ref a :: As) S v r' := by
  intro p l e E s m args below meth c mc ms mc' ms' cells slots H locs ls C htb hr hls hM hfit hPc
  obtain ⟨⟨hx, hb, hown, hts, hK⟩, hC2⟩ := id C
  have hw : codeW B' = .code (bY B') (bC B') (bN B') (bR B') := by unfold codeW; rw [hH]
  obtain ⟨g1, g2⟩ := room_ok (mc := mc) (ms := ms) (mc' := mc') (ms' := ms') hf
  have hcode : (Cond.code (bY B') (bC B') (bN B') (bR B')).before args s = true := by rw [← hw]; exact hts _ hB.2.2.1 hB.2.2.2.1
  have hat : ClassAt s "java/lang/StringBuilder" (E.1.1 7) := (hK.1 7 _ (clt_get (by omega))).2
  refine vx_runSU (C := "java/lang/StringBuilder") hat (bytes := bC B') (maxL := bN B') (ret := bR B') (nL := bN B) (Ts := []) (n := n) ⟨hx, hb, C.2.2.1, hown, fun w h => by cases h⟩ hM
    ⟨⟨rfl, rfl, g1, g2, ws_warm hB hts, by rw [hw]; exact List.mem_cons_self⟩, hts _ hlk rfl, hts _ hsm rfl, hts _ hsu rfl, hts _ hin rfl, hts _ hB.2.2.2.2.1 rfl, hcode, hy, hn.use⟩
    ⟨pc_blind, recv_ok (ci := 7) htb.1 hr hk (by omega), hPc⟩ rfl hA hls rfl (lv_room hW) hd hfit
theorem selSB_of {y : MethodName} (h : Cond.selects "java/lang/StringBuilder" y y ∈ tb2) : selSB y := fun args s hts => hts _ h rfl
/-- a private method of AbstractStringBuilder, on a StringBuilder: where all the tables' words hold -/
theorem sel_priv {y : MethodName} {args : Array Value} {s : State} (hts : ∀ w ∈ lw_tbl, w.before args s = true) (hy : y.cls = "java/lang/AbstractStringBuilder") (hp : Cond.privateMethod y ∈ lw_tbl) (hi : Cond.instanceMethod y ∈ lw_tbl) : (Cond.selects "java/lang/StringBuilder" y y).before args s = true := by
  have hmh : y.cls ≠ "java/lang/invoke/MethodHandle" ∧ y.cls ≠ "java/lang/invoke/VarHandle" := by rw [hy]; exact ⟨by decide, by decide⟩
  obtain ⟨mk, methM, hnamed, hmethM, -, -⟩ := Cond.instanceMethod_spec (hts _ hi)
  have hfound : s.methodFound? y.cls y.name y.desc = some mk := State.methodFound?_of_named hnamed hmh
  have hl : (Cond.selects "java/lang/StringBuilder" ⟨"java/lang/AbstractStringBuilder", "isLatin1", "()Z"⟩ ⟨"java/lang/AbstractStringBuilder", "isLatin1", "()Z"⟩).before args s = true := hts _ (List.mem_of_getElem? (i := 40 + 548) (by decide +kernel))
  obtain ⟨c2, r2, m2, q1, q2, q3, q4, kP, hkP, hkPi⟩ := Cond.selects_spec hl
  have hcls : mk.cls = m2.cls := by
    have h1 := findClass_of_methodNamed hnamed
    have h2 := findClass_of_methodNamed q3
    rw [hy] at h1
    exact Option.some.inj (h1.symm.trans h2)
  have hsel : selectMethod {} s.vm c2 mk = .method mk := selectMethod_private hmethM (Cond.privateMethod_at (hts _ hp) mk methM hnamed hmethM)
  rw [← hcls] at hkP
  simp only [Cond.before, Cond.holds, Cond.value, q1, hfound, hnamed, hsel, hkP]
  simp; exact hkPi
theorem tb2_ok {args : Array Value} {s : State} (hts : ∀ w ∈ lw_tbl, w.before args s = true) : ∀ w ∈ tb2, w.before args s = true := by
  intro w hw
  rcases List.mem_append.mp hw with h | h
  · simp only [xsel, List.mem_cons, List.not_mem_nil, or_false] at h
    rcases h with rfl | rfl | rfl | rfl
    · exact sel_priv hts rfl (List.mem_of_getElem? (i := 40 + 513) (by decide +kernel)) (by decide +kernel)
    · exact sel_priv hts rfl (List.mem_of_getElem? (i := 40 + 517) (by decide +kernel)) (by decide +kernel)
    · exact sel_priv hts rfl (List.mem_of_getElem? (i := 40 + 567) (by decide +kernel)) (by decide +kernel)
    · exact sel_priv hts rfl (List.mem_of_getElem? (i := 40 + 571) (by decide +kernel)) (by decide +kernel)
  · exact hts w h
end MORE
