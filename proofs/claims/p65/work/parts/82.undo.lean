/-! What is kept for undo. -/
section UNDO
variable {S : shp} {v : vl} {a b m N q : Nat} {now : sta} {sv : Option sta} {ps : List sta} {re ca ch : Int}
def tkL : Nat → List sta → List sta
  | 0, _ => []
  | _ + 1, [] => []
  | n + 1, x :: l => x :: tkL n l
theorem tkL_get : ∀ (n : Nat) (l : List sta) (i : Nat) (s : sta), (tkL n l)[i]? = some s → i < n ∧ l[i]? = some s
  | 0, l, i, s, h => by simp [tkL] at h
  | n + 1, [], i, s, h => by simp [tkL] at h
  | n + 1, x :: l, 0, s, h => ⟨Nat.succ_pos n, h⟩
  | n + 1, x :: l, i + 1, s, h => by
    obtain ⟨h1, h2⟩ := tkL_get n l i s h
    exact ⟨Nat.succ_lt_succ h1, h2⟩
theorem tkL_len : ∀ (n : Nat) (l : List sta), (tkL n l).length = if l.length < n then l.length else n
  | 0, l => by
    rw [if_neg (Nat.not_lt_zero _)]
    rfl
  | n + 1, [] => by
    show 0 = if 0 < n + 1 then 0 else n + 1
    rw [if_pos (Nat.succ_pos n)]
  | n + 1, x :: l => by
    show (tkL n l).length + 1 = if l.length + 1 < n + 1 then l.length + 1 else n + 1
    rw [tkL_len n l]
    split <;> split <;> omega
/-- the past ones with one more -/
def keepP (now : sta) (ps : List sta) : List sta := now :: tkL 7 ps
theorem keepP_get {i : Nat} {s : sta} (h : (keepP now ps)[i]? = some s) : (i = 0 ∧ s = now) ∨ ∃ j, i = j + 1 ∧ j < 7 ∧ ps[j]? = some s := by
  cases i with
  | zero =>
    have h' : some now = some s := h
    cases h'
    exact Or.inl ⟨rfl, rfl⟩
  | succ j =>
    have h' : (tkL 7 ps)[j]? = some s := h
    obtain ⟨h1, h2⟩ := tkL_get 7 ps j s h'
    exact Or.inr ⟨j, rfl, h1, h2⟩
theorem keepP_len : (keepP now ps).length = (if ps.length < 7 then ps.length else 7) + 1 := by
  show (tkL 7 ps).length + 1 = _
  rw [tkL_len]
theorem get_lt {l : List sta} {i : Nat} {s : sta} (h : l[i]? = some s) : i < l.length := by
  by_cases q : i < l.length
  · exact q
  · rw [List.getElem?_eq_none (by omega)] at h
    cases h
theorem stA_wra {s : sta} {f : Nat → Int32} (hA : stA S v b s) (ka : kin S a = some (0, 5)) (hab : a < b) : stA S (wr v a f) b s := by
  obtain ⟨⟨l, hh, hc, hW⟩, hm⟩ := hA
  refine ⟨⟨l, by rw [rw_wr_ne (by omega)]; exact hh, by rw [rw_wr_ne (by omega)]; exact hc, sgW_ne hW (by omega)⟩, fun i hi => ?_⟩
  obtain ⟨r, r1, r2, r3⟩ := hm i hi
  refine ⟨r, r1, r2, ?_⟩
  rw [rw_wr_ne (fun z => by rw [z, ka] at r2; cases r2)]
  exact r3
theorem gc_keep2 (hN : 100 ≤ N) (hw : wfS S) (hR : cR S v a now sv ps re ca ch q) (hq : q ≤ 1000) :
    ∃ S' v', F_gc_keepForUndo N a S v = some (S', v') ∧ wfS S' ∧ cR S' v' a now sv (keepP now ps) re ca ch (q + 1) ∧ exg a 0 0 S v S' v' ∧ ∀ x s, (x = a + 17 ∨ x = a + 23) → stA S v x s → stA S' v' x s := by
  obtain ⟨hL, ⟨n1, n2⟩, hsv, ⟨n, p1, p2, p3, p4, p5, p6⟩, r2, r3, r4⟩ := id hR
  obtain ⟨⟨k0, g0, g1, g5, g6, g7, g8, g10⟩, -, -, k35, g35, -, -, -, -, -, l36⟩ := id hL
  have h8 := stV_8 n2
  have h5 := n2.1.2.2.2.2
  have hm : n % 8 < 8 := Nat.mod_lt _ (by decide)
  have hB : isB a (a + 36 + 6 * (n % 8)) := by unfold isB; exact Or.inr (Or.inr (Or.inr (Or.inr (Or.inr ⟨n % 8, hm, rfl⟩))))
  have lb := gcL_st hL hB
  obtain ⟨S1, v1, q1, q2, q3, q4⟩ := st_copyFrom (N := N) hN hw lb n1.1 n1.2 (by omega) h8.2.2 h5
  have tn : (J (n : Int)).toInt = n := J_toInt (by omega) (by omega)
  have e8 : F_ma_floorMod (J (n : Int)) (J 8) S v = some (J ((n % 8 : Nat) : Int)) := by
    rw [fmod_ok (by rw [tJ]; decide) (by rw [tJ]; decide), tn, tJ]
    congr 2
  have t8 : (J ((n % 8 : Nat) : Int)).toInt = ((n % 8 : Nat) : Int) := J_toInt (by omega) (by omega)
  have ea : rw v1 a = rw v a := exi_rw q4 hw k0 (by omega)
  have ka1 : kin S1 a = some (0, 5) := exi_kin q4 hw k0
  obtain ⟨v2, ev⟩ : ∃ v2, v2 = wr v1 a (up (up (rw v a) 11 (J ((n + 1 : Nat) : Int))) 12 (J ((keepP now ps).length : Int))) := ⟨_, rfl⟩
  have hlen : (((keepP now ps).length : Nat) : Int) = minZ 8 ((ps.length : Int) + 1) := by
    rw [keepP_len]
    unfold minZ
    split <;> split <;> omega
  refine ⟨S1, v2, ?_, exi_wf q4 hw, ?_, ?_, fun x s hx hA => ?_⟩
  · unfold F_gc_keepForUndo
    rw [grd_true _ k0, g10]
    simp only [Option.bind_some]
    rw [gi_rw, p1, e8]
    simp only [Option.bind_some]
    rw [grd_true _ k35, grd_true _ (vin_of k35 t8 hm), clampT t8, g35 _ hm]
    simp only [Option.bind_some]
    rw [g5]
    simp only [Option.bind_some]
    rw [grd_true _ lb.1, q1]
    simp only [Option.bind_some, lt_def, si_wr, gi_x, rw_wr, wr_wr, ea]
    have u12 : up (rw v a) 11 (rw v a 11 + J 1) 12 = rw v a 12 := up_ne (by decide)
    rw [u12, p1, p4, J_s, ← J_add, ma_minJ (by decide) (by omega)]
    simp only [Option.bind_some]
    have en : ((n + 1 : Nat) : Int) = (n : Int) + 1 := rfl
    have el : ((ps.length + 1 : Nat) : Int) = (ps.length : Int) + 1 := rfl
    rw [ev, hlen, en, el]
  · have ka2 : rw v2 a = up (up (rw v a) 11 (J ((n + 1 : Nat) : Int))) 12 (J ((keepP now ps).length : Int)) := by rw [ev, rw_wr]
    have st : ∀ {x : Nat} {s : sta}, stA S v x s → (x + 6 ≤ a + 36 + 6 * (n % 8) ∨ a + 36 + 6 * (n % 8) + 6 ≤ x) → a < x → stA S1 v2 x s := fun h1 h2 h3 => by
      rw [ev]
      exact stA_wra (stA_exi h1 hw lb h2 q4) ka1 h3
    refine ⟨gcL_exi hL hw hB q2.1 q4, ⟨st n1 (by omega) (by omega), n2⟩, ?_, ⟨n + 1, ?_, ?_, by omega, ?_, ?_, fun i s his => ?_⟩, ?_, ?_, ?_⟩
    · rcases hsv with ⟨z1, z2⟩ | ⟨s, z1, z2, z3, z4⟩
      · exact Or.inl ⟨z1, by rw [ka2, up_ne (by decide), up_ne (by decide)]; exact z2⟩
      · exact Or.inr ⟨s, z1, by rw [ka2, up_ne (by decide), up_ne (by decide)]; exact z2, st z3 (by omega) (by omega), z4⟩
    · rw [ka2, up_ne (by decide), up_same]
    · rw [keepP_len]; split <;> omega
    · rw [ka2, up_same]
    · rw [keepP_len]; split <;> omega
    · rcases keepP_get his with ⟨i0, is⟩ | ⟨j, ij, j7, js⟩
      · subst i0 is
        rw [show (n + 1 - 1 - 0) % 8 = n % 8 by omega]
        refine ⟨n2, ?_⟩
        rw [ev]
        exact stA_wra ⟨q2, q3⟩ ka1 (by omega)
      · subst ij
        obtain ⟨y1, y2⟩ := p6 j s js
        have jl := get_lt js
        rw [show (n + 1 - 1 - (j + 1)) % 8 = (n - 1 - j) % 8 by omega]
        exact ⟨y1, st y2 (by omega) (by omega)⟩
    · rw [ka2, up_ne (by decide), up_ne (by decide)]; exact r2
    · rw [ka2, up_ne (by decide), up_ne (by decide)]; exact r3
    · rw [ka2, up_ne (by decide), up_ne (by decide)]; exact r4
  · have x1 : exg a 0 0 S v S1 v1 := exg_exi q4 (by omega) (Nat.le_refl _) (Nat.le_refl _)
    rw [ev]
    exact exg_mono (exg_tr x1 exg_wr) (Nat.le_refl _) (Nat.le_refl _)
  · rw [ev]
    exact stA_wra (stA_exi hA hw lb (by omega) q4) ka1 (by omega)
theorem gc_keep (hN : 100 ≤ N) (hw : wfS S) (hR : cR S v a now sv ps re ca ch q) (hq : q ≤ 1000) :
    ∃ S' v', F_gc_keepForUndo N a S v = some (S', v') ∧ wfS S' ∧ cR S' v' a now sv (keepP now ps) re ca ch (q + 1) ∧ exg a 0 0 S v S' v' := by
  obtain ⟨S', v', h1, h2, h3, h4, -⟩ := gc_keep2 hN hw hR hq
  exact ⟨S', v', h1, h2, h3, h4⟩
-- the model's
end UNDO
