/-! The laws of stretches: fields, rows, then all. -/
theorem clt_get {ci : Nat} (h : ci < 9) : clt[ci]? = some ((fTN ci).2.2, (fTN ci).1, (fTN ci).2.1) := by
  match ci, h with
  | 0, _ => rfl
  | 1, _ => rfl
  | 2, _ => rfl
  | 3, _ => rfl
  | 4, _ => rfl
  | 5, _ => rfl
  | 6, _ => rfl
  | 7, _ => rfl
  | 8, _ => rfl
  | n + 9, h => omega
theorem uws_in {ci : Nat} (h : ci < 9) : ∀ w ∈ u_ws (fTN ci).2.2 (fTN ci).1 (fTN ci).2.1, w ∈ tb2 ∧ goodWord w = true := by
  match ci, h with
  | 0, _ => decide +kernel
  | 1, _ => decide +kernel
  | 2, _ => decide +kernel
  | 3, _ => decide +kernel
  | 4, _ => decide +kernel
  | 5, _ => decide +kernel
  | 6, _ => decide +kernel
  | 7, _ => decide +kernel
  | 8, _ => decide +kernel
  | n + 9, h => omega
theorem fty_ok {ci : Nat} (h : ci < 9) : ∀ k, k < (fTN ci).2.1 → parseFieldDescriptor ((fTN ci).1 k).2.2.1 = some (fty ci k) := by
  match ci, h with
  | 0, _ => exact tyX0_ok
  | 1, _ => exact tyX1_ok
  | 2, _ => exact tyX2_ok
  | 3, _ => exact tyX3_ok
  | 4, _ => exact tyX4_ok
  | 5, _ => exact tyX5_ok
  | 6, _ => exact tyL_ok
  | 7, _ => exact tyJ4_ok
  | 8, _ => exact tyJ0_ok
  | n + 9, h => omega
theorem fnm_ok {ci : Nat} (h : ci < 9) : ∀ a, a < (fTN ci).2.1 → ∀ b, b < (fTN ci).2.1 → a ≠ b → ((fTN ci).1 a).2.1 ≠ ((fTN ci).1 b).2.1 := by
  match ci, h with
  | 0, _ => exact nmX0
  | 1, _ => exact nmX1
  | 2, _ => exact nmX2
  | 3, _ => exact nmX3
  | 4, _ => exact nmX4
  | 5, _ => exact nmX5
  | 6, _ => exact nmL
  | 7, _ => exact nmJ4
  | 8, _ => exact nmJ0
  | n + 9, h => omega
section SOUND
variable {p : Program} {l : Launch} {e : Env} {R : Room} {s : State} {m : MethodId} {args : Array Value} {below : List Frame} {meth : Method} {c : Code} {Q : State → Prop}
variable {E : env} {nL n0 z0 oc : Nat} {cc : ByteArray} {pc : Nat} {L : lo} {st rest : List Value} {S : shp} {v : vl}
/-- what the stretches' laws rest on -/
def cxt (p : Program) (s : State) (m : MethodId) (args : Array Value) (c : Code) (cc : ByteArray) (oc : Nat) (E : env) : Prop :=
  p.tables.exec = Jvm.exec ∧ c.code = cc ∧ s.vm.findClass (owns oc) = some m.cls ∧ (∀ w, w ∈ tb2 → goodWord w = true → w.before args s = true) ∧ va_K E.1 clt [] s
theorem fval_ok {ci a N : Nat} {k : Nat} (hk : k < N) : vp_V ((List.range N).map (fval S v ci a)) k = fval S v ci a k := by
  unfold vp_V
  rw [List.getD_eq_getElem?_getD, List.getElem?_map, List.getElem?_range hk]
  rfl
theorem rel.fs {H : Heap} {a ci : Nat} (h : rel E S v s H) (hci : ci < 9) (hk : kin S a = some (0, ci)) : va_P E.1 clt [(a, .inr (ci, (List.range (fTN ci).2.1).map (fval S v ci a)))] H := by
  obtain ⟨-, r, h1, h2⟩ := h.ob hk
  intro k q hq
  have hz : k < 1 := (List.getElem?_eq_some_iff.mp hq).1
  rw [show k = 0 by omega] at hq
  cases hq
  refine ⟨r, h1, h2.to fun j hj => ?_⟩
  have hr : r = ((fTN ci).2.2, (fTN ci).1, (fTN ci).2.1) := Option.some.inj (h1.symm.trans (clt_get hci))
  subst hr
  exact (fval_ok hj).symm
theorem VW.get (C : cxt p s m args c cc oc E) {idx ci k a : Nat} (hd : decode cc pc = .ok (.getfield idx, 3)) (hq : (idx, ci, k) ∈ ftab oc) (hk : kin S a = some (0, ci))
    (kk : VW p l e R s m args below meth c Q E nL n0 z0 (pc + 3) L (fval S v ci a k :: st) S v) : VW p l e R s m args below meth c Q E nL n0 z0 pc L (.ref a :: st) S v := by
  obtain ⟨hx, hb, hown, hts, hK⟩ := C
  obtain ⟨w1, w2, w3, w4⟩ := ftab_ok oc _ hq
  dsimp only at w3 w4
  intro H locs cells slots ls hr hl hf hc hz
  exact va_get (D := E.1) (cl := clt) (tys := []) (ci := ci) (Ts := u_ws (fTN ci).2.2 (fTN ci).1 (fTN ci).2.1) hx hb (fun w h => hts w (uws_in w4 w h).1 (uws_in w4 w h).2) (fun _ h => h) hown hK (hr.fs w4 hk) 0 rfl (clt_get w4) k w3 (hts _ w1 w2) (fun _ h => h)
    (v := fval S v ci a k) (by rw [List.getElem?_map, List.getElem?_range w3]; rfl) hd (kk H locs cells slots ls hr hl hf hc hz)
/-- a change of one place of one of our cells -/
theorem rel.mono {H H1 : Heap} {v1 : vl} {S1 : shp} {a : Nat} {ka : kd} (h : rel E S v s H) (hk : kin S a = some ka) (hka : ka.1 < 10) (hS : S1.1 = S.1 ∧ S1.2.2 = S.2.2)
    (hz : H1.size = H.size) (oq : ∀ q : Nat, q ≠ a → H1[q]? = H[q]?) (hi : ∀ b k, b ≠ a → gi v1 b k = gi v b k ∧ gl v1 b k = gl v b k ∧ gr S1 b k = gr S b k) (ha : cok E S1 s H1 v1 a ka) : rel E S1 v1 s H1 := by
  obtain ⟨h1, h2, h3, h4⟩ := h
  have e1 : bas S1 = bas S := by unfold bas; rw [hS.2]
  have e2 : cn S1 = cn S := by unfold cn; rw [hS.2]
  have e3 : kin S1 = kin S := by unfold kin; rw [hS.1]
  have hba : bas S ≤ a := by
    rcases h4 a ka hk with h | h
    · exact h.2.1
    · exact absurd h.1 (by omega)
  refine ⟨e1.trans h1, by rw [hz, e1, e2]; exact h2, fun q hq => ?_, fun b k hb => ?_⟩
  · rw [e1] at hq
    rw [oq q (by omega)]
    exact h3 q hq
  · rw [e3] at hb
    rw [e1]
    by_cases hba' : b = a
    · subst hba'
      rw [hk] at hb
      cases hb
      exact Or.inl ⟨hka, hba, ha⟩
    · have f1 : ∀ k, fval S1 v1 k b = fval S v k b := fun k => funext fun j => by unfold fval; rw [(hi b j hba').1, (hi b j hba').2.1, (hi b j hba').2.2]
      have f2 : ∀ t, aval S1 v1 t b = aval S v t b := fun t => funext fun j => by unfold aval; rw [(hi b j hba').1, (hi b j hba').2.1, (hi b j hba').2.2]
      rcases h4 b k hb with ⟨g1, g2, g3⟩ | ⟨g1, g2, g3⟩
      · refine Or.inl ⟨g1, g2, ?_⟩
        rcases g3 with ⟨u1, r, u2, u3⟩ | ⟨t, u1, u2, cA, u3, u4⟩
        · exact Or.inl ⟨u1, r, u2, by rw [f1]; exact u3.kept (oq b hba')⟩
        · exact Or.inr ⟨t, u1, u2, cA, by rw [f2, oq b hba']; exact u3, u4⟩
      · refine Or.inr ⟨g1, g2, ?_⟩
        rcases g3 with ⟨t, u1, u2, cell, u3, u4, u5, u6, u7, u8⟩ | ⟨u1, u2, u3, u4⟩
        · exact Or.inl ⟨t, u1, u2, cell, u3, u4, u5, u6, u7, fun j hj => by rw [(hi b j hba').1]; exact u8 j hj⟩
        · exact Or.inr ⟨u1, by rw [(hi b 0 hba').2.2]; exact u2, by rw [(hi b 1 hba').1]; exact u3, u4⟩
theorem VW.put0 (C : cxt p s m args c cc oc E) {idx ci k a : Nat} {x : Value} {S1 : shp} {v1 : vl} (hd : decode cc pc = .ok (.putfield idx, 3)) (hq : (idx, ci, k) ∈ ftab oc) (hfin : ((fTN ci).1 k).2.2.2 = false ∨ (meth.name = "<init>" ∧ ((fTN ci).1 k).1 = owns oc)) (hk : kin S a = some (0, ci))
    (hn : narrow (fty ci k) x = x) (hfit : fits (fty ci k) x = true) (hS : S1.1 = S.1 ∧ S1.2.2 = S.2.2) (hi : ∀ b j, (b ≠ a ∨ j ≠ k) → gi v1 b j = gi v b j ∧ gl v1 b j = gl v b j ∧ gr S1 b j = gr S b j) (hx1 : fval S1 v1 ci a k = x)
    (kk : VW p l e R s m args below meth c Q E nL n0 z0 (pc + 3) L st S1 v1) : VW p l e R s m args below meth c Q E nL n0 z0 pc L (x :: .ref a :: st) S v := by
  obtain ⟨hx, hb, hown, hts, hK⟩ := C
  obtain ⟨w1, w2, w3, w4⟩ := ftab_ok oc _ hq
  dsimp only at w3 w4
  intro H locs cells slots ls hr hl hf hc hz
  have hts' : ∀ w ∈ u_ws (fTN ci).2.2 (fTN ci).1 (fTN ci).2.1, w.before args s = true := fun w h => hts w (uws_in w4 w h).1 (uws_in w4 w h).2
  have hap := va_apart (own := owns oc) (Ts := u_ws (fTN ci).2.2 (fTN ci).1 (fTN ci).2.1) hts' (fun _ h => h) (fty ci) (fty_ok w4) (fnm_ok w4) hK (clt_get w4)
  obtain ⟨hba, r, h1, cell, q1, q2, q3, q4⟩ := hr.ob hk
  have hrr : r = ((fTN ci).2.2, (fTN ci).1, (fTN ci).2.1) := Option.some.inj (h1.symm.trans (clt_get w4))
  subst hrr
  obtain ⟨hSl, hfc, kC, hkC, hkind⟩ := hK.1 ci _ (clt_get w4)
  obtain ⟨cf, kf, fi, f, hif, hsl⟩ := hSl k w3
  have hlay0 := u_lays (N := (fTN ci).2.1) hts' (fun _ h => h) w3
  have hst := (u_facts hfc hkC hlay0 hif).1
  have h6 := u_fits hfc hkC hkind hlay0 hif (fty_ok w4 k w3) hn hfit
  have hbE : E.2.size ≤ a := by rw [← hr.1]; exact hba
  have go : ∀ H' : Heap, H'[a]? = some (cell.setSlot f.slot x) → H'.size = H.size → (∀ q, q ≠ a → H'[q]? = H[q]?) → W p l e R s m args below meth c H' (locs ++ [⟨a, f.slot⟩]) cells slots Q (F0 m (pc + 3) ls st) := by
    intro H' e1 e2 e3
    rw [hsl] at e1
    refine kk H' _ cells slots ls (hr.mono hk (by simp) hS e2 e3 (fun b j hb => hi b j (Or.inl hb)) (Or.inl ⟨rfl, _, clt_get w4, ?_⟩)) hl (fun q hq => ?_) (by rw [hc]; unfold cn; rw [hS.2]) (by rw [hz]; unfold cz; rw [hS.2])
    · refine t_OB.to (V := updV (fval S v ci a) k x) ⟨_, e1, q2, q3, t_set q4 hap w3 x⟩ (fun j hj => ?_)
      unfold updV
      by_cases hjk : j = k
      · subst hjk; rw [if_pos rfl]; exact hx1.symm
      · rw [if_neg hjk]; unfold fval; rw [(hi a j (Or.inr hjk)).1, (hi a j (Or.inr hjk)).2.1, (hi a j (Or.inr hjk)).2.2]
    · rcases List.mem_append.mp hq with h | h
      · exact hf q h
      · rw [List.mem_singleton] at h; subst h; exact hbE
  rcases hfin with hfin | ⟨hin, hdecl⟩
  · have hlay := hts' _ (u_in_lay w3)
    unfold u_lay at hlay
    rw [if_neg (by rw [hfin]; decide)] at hlay
    have h7 := u_store hfc hkC hkind hlay hif (fty_ok w4 k w3) hn hfit
    exact W.putK hx hb (f := f) ⟨hown, hts _ w1 w2, ⟨_, _, _, hif⟩, hst⟩ (by rw [q2]; exact h7) q1 q3 (by rw [hsl]; exact k2_hasslot (q4 k w3)) rfl rfl hd go
  · by_cases hfb : ((fTN ci).1 k).2.2.2 = true
    · have hlay := hts' _ (u_in_lay w3)
      unfold u_lay at hlay
      rw [if_pos hfb] at hlay
      have hcf : m.cls = cf := by
        obtain ⟨_, _, c', _, _, _, -, -, hf', -, -, -, hown2, -⟩ := Cond.laysFinal_spec hlay
        have e1 : c' = cf := by have := hif.symm.trans hf'; simp at this; exact this.1.symm
        rw [hdecl] at hown2
        rw [← e1]; exact Option.some.inj (hown.symm.trans hown2)
      exact W.putFinK hx hb hown (hts _ w1 w2) hif hst hcf hin (by rw [q2]; exact h6) q1 q3 (by rw [hsl]; exact k2_hasslot (q4 k w3)) rfl rfl hd go
    · have hlay := hts' _ (u_in_lay w3)
      unfold u_lay at hlay
      rw [if_neg hfb] at hlay
      have h7 := u_store hfc hkC hkind hlay hif (fty_ok w4 k w3) hn hfit
      exact W.putK hx hb (f := f) ⟨hown, hts _ w1 w2, ⟨_, _, _, hif⟩, hst⟩ (by rw [q2]; exact h7) q1 q3 (by rw [hsl]; exact k2_hasslot (q4 k w3)) rfl rfl hd go
end SOUND
