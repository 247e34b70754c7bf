/-! The law, from its start to its end. -/
section LAWRUN
variable {S S' S0 : shp} {v v' v0 : vl} {a o s N n m k q p0 r j : Nat} {L : List Int} {t p X : Nat → Int} {st d ag P G Q : Int} {f0 f1 f2 : Nat → Int32}
/-- the cells below b stay -/
def lowF (b : Nat) (S : shp) (v : vl) (S' : shp) (v' : vl) : Prop := (∀ x, x < b → kin S' x = kin S x ∧ rw v' x = rw v x ∧ ∀ j, gr S' x j = gr S x j) ∧ kad S' = kad S
theorem lowF_tr {S1 : shp} {v1 : vl} (h1 : lowF k S v S1 v1) (h2 : lowF k S1 v1 S' v') : lowF k S v S' v' := by
  obtain ⟨a1, a2⟩ := h1
  obtain ⟨b1, b2⟩ := h2
  exact ⟨fun x hx => ⟨(b1 x hx).1.trans (a1 x hx).1, (b1 x hx).2.1.trans (a1 x hx).2.1, fun j => ((b1 x hx).2.2 j).trans ((a1 x hx).2.2 j)⟩, b2.trans a2⟩
theorem lowF_mk {l b : Nat} (h : mkG (fun _ _ => False) b k l S v S' v') : lowF b S v S' v' :=
  ⟨fun x hx => ⟨(h.1 x hx).1, (h.1 x hx).2.1, fun j => h.2.1 x j hx (fun q => q)⟩, h.2.2.1⟩
theorem lowF_le {b b' : Nat} (h : lowF b S v S' v') (hb : b' ≤ b) : lowF b' S v S' v' := ⟨fun x hx => h.1 x (by omega), h.2⟩
theorem tPs_low (hT : tPs S v o) (h : lowF o S v S' v') (h0 : kad S 0 < o) (ha : o ≤ a) : tPs S' v' a := by
  obtain ⟨t1, t2, t3⟩ := hT
  obtain ⟨x1, x2⟩ := h
  unfold tPs
  rw [x2, (x1 _ h0).1, (x1 _ h0).2.1]
  exact ⟨t1, Or.inl (by omega), t3⟩
theorem wdS_low {ln : Nat → Nat} {W : Nat → Nat → Int} (hW : wdS S v o ln W) (h : lowF o S v S' v') (ha : o ≤ a) : wdS S' v' a ln W := by
  intro j h10 h16
  obtain ⟨h1, h2, h3, h4, r, g1, g2, g3, g4⟩ := hW j h10 h16
  obtain ⟨x1, x2⟩ := h
  unfold wdT
  rw [x2, (x1 _ h2).1, (x1 _ h2).2.1]
  refine ⟨h1, by omega, h3, h4, r, by rw [(x1 _ h2).2.2]; exact g1, by omega, by rw [(x1 _ g2).1]; exact g3, fun k hk => ?_⟩
  rw [(x1 _ g2).2.1]
  exact g4 k hk
theorem asc_ok {m : Nat} : ascL (hdT st d ag P G Q ++ sgU t p m) := by
  have hn : ∀ x : Int, ascL (numL x) := by
    intro x y hy
    unfold numL at hy
    rcases List.mem_append.mp hy with h | h
    · split at h
      · have : y = 45 := by simpa using h
        omega
      · exact absurd h List.not_mem_nil
    · unfold digL at h
      obtain ⟨i, -, e⟩ := List.mem_map.mp h
      have e' : y = ((48 + dg x.natAbs (nd x.natAbs - 1 - i) : Nat) : Int) := e.symm
      have d : dg x.natAbs (nd x.natAbs - 1 - i) < 10 := Nat.mod_lt _ (by decide)
      omega
  have ha : ∀ A B : List Int, ascL A → ascL B → ascL (A ++ B) := fun A B h1 h2 y hy => by
    rcases List.mem_append.mp hy with h | h
    · exact h1 y h
    · exact h2 y h
  have hs : ∀ k, ascL (sgU t p k) := by
    intro k
    induction k with
    | zero => exact fun y hy => absurd hy List.not_mem_nil
    | succ k ih =>
      show ascL (sgU t p k ++ sg1 (t k) (p k))
      unfold sg1
      exact ha _ _ ih (ha _ _ (by unfold ascL sS; decide) (ha _ _ (hn _) (ha _ _ (by unfold ascL; decide) (ha _ _ (hn _) (by unfold ascL; decide)))))
  refine ha _ _ ?_ (hs m)
  unfold hdT
  exact ha _ _ (ha _ _ (ha _ _ (ha _ _ (ha _ _ (ha _ _ (ha _ _ (ha _ _ (ha _ _ (ha _ _ (ha _ _ (ha _ _ (ha _ _ (by unfold ascL; decide) (by unfold ascL sC; decide)) (hn _)) (by unfold ascL sD; decide)) (hn _)) (by unfold ascL sA; decide)) (hn _)) (by unfold ascL sP; decide)) (hn _)) (by unfold ascL sG; decide)) (hn _)) (by unfold ascL sQ; decide)) (hn _)) (by unfold ascL; decide)
/-- the law's segments, told as the class holds them -/
def XX (t p : Nat → Int) (m : Nat) : Nat → Int := fun k => if k < 23 then 0 else if (k - 23) % 2 = 0 then TK t m ((k - 23) / 2) else TK p m ((k - 23) / 2)
theorem mt_XX : mt (XX t p m) = TK t m := by
  funext i
  show XX t p m (23 + 2 * i) = _
  unfold XX
  rw [if_neg (by omega), if_pos (by omega), show (23 + 2 * i - 23) / 2 = i by omega]
theorem mp_XX : mp (XX t p m) = TK p m := by
  funext i
  show XX t p m (24 + 2 * i) = _
  unfold XX
  rw [if_neg (by omega), if_neg (by omega), show (24 + 2 * i - 23) / 2 = i by omega]
theorem rB_XX (hm : m ≤ 4) (hc : sgC t p m m) : rB (XX t p m) := by
  intro k
  unfold XX TK
  have h := hc.1
  split
  · decide
  · split
    · split
      · rename_i z
        have := h _ z
        omega
      · decide
    · split
      · rename_i z
        have := h _ z
        omega
      · decide
/-- all is the same between two acts -/
theorem lj_same (hF : flO) (hC : flC) (H : LJ S v o a p0 n X j) : F_lw_isSame o a S v = some (J 1) := by
  obtain ⟨h, c, g, M, sv, ps, re, ca, ch, hw, hR, hJ, rX, ⟨hau, -⟩, -⟩ := H
  exact lw_same hF hC hR hJ rX (auI_1 hau)
theorem lj_l (H : LJ S v o a p0 n X j) : kin S o = some (0, 6) ∧ kin S p0 = some (11, n) := by
  obtain ⟨h, c, g, M, sv, ps, re, ca, ch, hw, hR, hJ, rX, -, -, -, -, hp, -⟩ := H
  exact ⟨hJ.1.1, hp⟩
theorem law_loop (hF : flO) (hC : flC) (hN : 13000000 ≤ N) (hn : n ≤ 65536) : ∀ (r j F : Nat) (S : shp) (v : vl), j + r = 24 → r < F → LJ S v o a p0 n X j →
    ∃ S' v', K_lw_law_51 N F S v p0 o a (J (j : Int)) = some (J 1, S', v') ∧ cn S' ≤ cn S + 20 * r ∧ cz S' ≤ cz S + 400 * r
  | _, _, 0, _, _, _, h, _ => absurd h (Nat.not_lt_zero _)
  | 0, j, F + 1, S, v, hj, _, H => by
    have : j = 24 := by omega
    subst this
    refine ⟨S, v, ?_, by omega, by omega⟩
    show Y_lw_law_51 N (K_lw_law_51 N F) S v p0 o a _ = _
    unfold Y_lw_law_51
    rw [if_neg (by decide)]
  | r + 1, j, F + 1, S, v, hj, hr, H => by
    have n1 : ¬ J 1 = J 0 := by decide
    obtain ⟨l1, l2⟩ := lj_l H
    obtain ⟨x, ex⟩ := lw_cell_ok (S := S) (i := 6 + j) l2 hn (by omega)
    obtain ⟨S1, v1, e1, H1, g1, g2, g3⟩ := lw_act (x := x v) (N := N) hN (by omega) H
    obtain ⟨S', v', f1, f2, f3⟩ := law_loop hF hC hN hn r (j + 1) F S1 v1 (by omega) (by omega) H1
    refine ⟨S', v', ?_, by omega, by omega⟩
    show Y_lw_law_51 N (K_lw_law_51 N F) S v p0 o a _ = _
    unfold Y_lw_law_51
    rw [if_pos ((J_lt (by omega) (by decide)).mpr (by omega)), show (J 6 + J (j : Int)) = J ((6 + j : Nat) : Int) by rw [← J_add]; congr 1, ex, Option.bind_some, grd_true _ l1, e1, Option.bind_some]
    simp only []
    rw [if_neg n1, lj_same hF hC H1, Option.bind_some, if_neg n1, J_s]
    exact f1
end LAWRUN
