/-! What is kept for undo. -/
section UNDO
variable {S : shp} {v : vl} {a b m N q : Nat} {now : sta} {sv : Option sta} {ps : List sta} {re ca ch : Int}
def tkL : Nat → List sta → List sta
  | 0, _ => []
  | _ + 1, [] => []
  | n + 1, x :: l => x :: tkL n l
theorem tkL_get : ∀ (n : Nat) (l : List sta) (i : Nat) (s : sta), (tkL n l)[i]? = some s → i < n ∧ l[i]? = some s
  | 0, l, i, s, h => by simp [tkL] at h
  | n + 1, [], i, s, h => by simp [tkL] at h
  | n + 1, x :: l, 0, s, h => ⟨Nat.succ_pos n, h⟩
  | n + 1, x :: l, i + 1, s, h => by
    obtain ⟨h1, h2⟩ := tkL_get n l i s h
    exact ⟨Nat.succ_lt_succ h1, h2⟩
theorem tkL_len : ∀ (n : Nat) (l : List sta), (tkL n l).length = if l.length < n then l.length else n
  | 0, l => by
    rw [if_neg (Nat.not_lt_zero _)]
    rfl
  | n + 1, [] => by
    show 0 = if 0 < n + 1 then 0 else n + 1
    rw [if_pos (Nat.succ_pos n)]
  | n + 1, x :: l => by
    show (tkL n l).length + 1 = if l.length + 1 < n + 1 then l.length + 1 else n + 1
    rw [tkL_len n l]
    split <;> split <;> omega
/-- the past ones with one more -/
def keepP (now : sta) (ps : List sta) : List sta := now :: tkL 7 ps
theorem keepP_get {i : Nat} {s : sta} (h : (keepP now ps)[i]? = some s) : (i = 0 ∧ s = now) ∨ ∃ j, i = j + 1 ∧ j < 7 ∧ ps[j]? = some s := by
  cases i with
  | zero =>
    have h' : some now = some s := h
    cases h'
    exact Or.inl ⟨rfl, rfl⟩
  | succ j =>
    have h' : (tkL 7 ps)[j]? = some s := h
    obtain ⟨h1, h2⟩ := tkL_get 7 ps j s h'
    exact Or.inr ⟨j, rfl, h1, h2⟩
theorem keepP_len : (keepP now ps).length = (if ps.length < 7 then ps.length else 7) + 1 := by
  show (tkL 7 ps).length + 1 = _
  rw [tkL_len]
theorem get_lt {l : List sta} {i : Nat} {s : sta} (h : l[i]? = some s) : i < l.length := by
  by_cases q : i < l.length
  · exact q
  · rw [List.getElem?_eq_none (by omega)] at h
    cases h
theorem stA_wra {s : sta} {f : Nat → Int32} (hA : stA S v b s) (ka : kin S a = some (0, 5)) (hab : a < b) : stA S (wr v a f) b s := by
  obtain ⟨⟨l, hh, hc, hW⟩, hm⟩ := hA
  refine ⟨⟨l, by rw [rw_wr_ne (by omega)]; exact hh, by rw [rw_wr_ne (by omega)]; exact hc, sgW_ne hW (by omega)⟩, fun i hi => ?_⟩
  obtain ⟨r, r1, r2, r3⟩ := hm i hi
  refine ⟨r, r1, r2, ?_⟩
  rw [rw_wr_ne (fun z => by rw [z, ka] at r2; cases r2)]
  exact r3
theorem gc_keep2 (hN : 100 ≤ N) (hw : wfS S) (hR : cR S v a now sv ps re ca ch q) (hq : q ≤ 1000) :
    ∃ S' v', F_gc_keepForUndo N a S v = some (S', v') ∧ wfS S' ∧ cR S' v' a now sv (keepP now ps) re ca ch (q + 1) ∧ exg a 0 0 S v S' v' ∧ ∀ x s, (x = a + 17 ∨ x = a + 23) → stA S v x s → stA S' v' x s := by
  obtain ⟨hL, ⟨n1, n2⟩, hsv, ⟨n, p1, p2, p3, p4, p5, p6⟩, r2, r3, r4⟩ := id hR
  obtain ⟨⟨k0, g0, g1, g5, g6, g7, g8, g10⟩, -, -, k35, g35, -, -, -, -, -, l36⟩ := id hL
  have h8 := stV_8 n2
  have h5 := n2.1.2.2.2.2
  have hm : n % 8 < 8 := Nat.mod_lt _ (by decide)
  have hB : isB a (a + 36 + 6 * (n % 8)) := by unfold isB; exact Or.inr (Or.inr (Or.inr (Or.inr (Or.inr ⟨n % 8, hm, rfl⟩))))
  have lb := gcL_st hL hB
  obtain ⟨S1, v1, q1, q2, q3, q4⟩ := st_copyFrom (N := N) hN hw lb n1.1 n1.2 (by omega) h8.2.2 h5
  have tn : (J (n : Int)).toInt = n := J_toInt (by omega) (by omega)
  have e8 : F_ma_floorMod (J (n : Int)) (J 8) S v = some (J ((n % 8 : Nat) : Int)) := by
    rw [fmod_ok (by rw [tJ]; decide) (by rw [tJ]; decide), tn, tJ]
    congr 2
  have t8 : (J ((n % 8 : Nat) : Int)).toInt = ((n % 8 : Nat) : Int) := J_toInt (by omega) (by omega)
  have ea : rw v1 a = rw v a := exi_rw q4 hw k0 (by omega)
  have ka1 : kin S1 a = some (0, 5) := exi_kin q4 hw k0
  obtain ⟨v2, ev⟩ : ∃ v2, v2 = wr v1 a (up (up (rw v a) 11 (J ((n + 1 : Nat) : Int))) 12 (J ((keepP now ps).length : Int))) := ⟨_, rfl⟩
  have hlen : (((keepP now ps).length : Nat) : Int) = minZ 8 ((ps.length : Int) + 1) := by
    rw [keepP_len]
    unfold minZ
    split <;> split <;> omega
  refine ⟨S1, v2, ?_, exi_wf q4 hw, ?_, ?_, fun x s hx hA => ?_⟩
  · unfold F_gc_keepForUndo
    rw [grd_true _ k0, g10]
    simp only [Option.bind_some]
    rw [gi_rw, p1, e8]
    simp only [Option.bind_some]
    rw [grd_true _ k35, grd_true _ (vin_of k35 t8 hm), clampT t8, g35 _ hm]
    simp only [Option.bind_some]
    rw [g5]
    simp only [Option.bind_some]
    rw [grd_true _ lb.1, q1]
    simp only [Option.bind_some, lt_def, si_wr, gi_x, rw_wr, wr_wr, ea]
    have u12 : up (rw v a) 11 (rw v a 11 + J 1) 12 = rw v a 12 := up_ne (by decide)
    rw [u12, p1, p4, J_s, ← J_add, ma_minJ (by decide) (by omega)]
    simp only [Option.bind_some]
    have en : ((n + 1 : Nat) : Int) = (n : Int) + 1 := rfl
    have el : ((ps.length + 1 : Nat) : Int) = (ps.length : Int) + 1 := rfl
    rw [ev, hlen, en, el]
  · have ka2 : rw v2 a = up (up (rw v a) 11 (J ((n + 1 : Nat) : Int))) 12 (J ((keepP now ps).length : Int)) := by rw [ev, rw_wr]
    have st : ∀ {x : Nat} {s : sta}, stA S v x s → (x + 6 ≤ a + 36 + 6 * (n % 8) ∨ a + 36 + 6 * (n % 8) + 6 ≤ x) → a < x → stA S1 v2 x s := fun h1 h2 h3 => by
      rw [ev]
      exact stA_wra (stA_exi h1 hw lb h2 q4) ka1 h3
    refine ⟨gcL_exi hL hw hB q2.1 q4, ⟨st n1 (by omega) (by omega), n2⟩, ?_, ⟨n + 1, ?_, ?_, by omega, ?_, ?_, fun i s his => ?_⟩, ?_, ?_, ?_⟩
    · rcases hsv with ⟨z1, z2⟩ | ⟨s, z1, z2, z3, z4⟩
      · exact Or.inl ⟨z1, by rw [ka2, up_ne (by decide), up_ne (by decide)]; exact z2⟩
      · exact Or.inr ⟨s, z1, by rw [ka2, up_ne (by decide), up_ne (by decide)]; exact z2, st z3 (by omega) (by omega), z4⟩
    · rw [ka2, up_ne (by decide), up_same]
    · rw [keepP_len]; split <;> omega
    · rw [ka2, up_same]
    · rw [keepP_len]; split <;> omega
    · rcases keepP_get his with ⟨i0, is⟩ | ⟨j, ij, j7, js⟩
      · subst i0 is
        rw [show (n + 1 - 1 - 0) % 8 = n % 8 by omega]
        refine ⟨n2, ?_⟩
        rw [ev]
        exact stA_wra ⟨q2, q3⟩ ka1 (by omega)
      · subst ij
        obtain ⟨y1, y2⟩ := p6 j s js
        have jl := get_lt js
        rw [show (n + 1 - 1 - (j + 1)) % 8 = (n - 1 - j) % 8 by omega]
        exact ⟨y1, st y2 (by omega) (by omega)⟩
    · rw [ka2, up_ne (by decide), up_ne (by decide)]; exact r2
    · rw [ka2, up_ne (by decide), up_ne (by decide)]; exact r3
    · rw [ka2, up_ne (by decide), up_ne (by decide)]; exact r4
  · have x1 : exg a 0 0 S v S1 v1 := exg_exi q4 (by omega) (Nat.le_refl _) (Nat.le_refl _)
    rw [ev]
    exact exg_mono (exg_tr x1 exg_wr) (Nat.le_refl _) (Nat.le_refl _)
  · rw [ev]
    exact stA_wra (stA_exi hA hw lb (by omega) q4) ka1 (by omega)
theorem gc_keep (hN : 100 ≤ N) (hw : wfS S) (hR : cR S v a now sv ps re ca ch q) (hq : q ≤ 1000) :
    ∃ S' v', F_gc_keepForUndo N a S v = some (S', v') ∧ wfS S' ∧ cR S' v' a now sv (keepP now ps) re ca ch (q + 1) ∧ exg a 0 0 S v S' v' := by
  obtain ⟨S', v', h1, h2, h3, h4, -⟩ := gc_keep2 hN hw hR hq
  exact ⟨S', v', h1, h2, h3, h4⟩
-- the model's
theorem rwM_ag {R R' : Nat → Int32} {s : sta} (hR : rwM R s) (hV : sV s) (he : ∀ k, k < 199 → R' k = R k) : rwM R' s :=
  rowM_ag hR (stV_8 hV).2.2 hV.1.2.2.2.2.2 he
def pR (v : vl) (m : Nat) (ps : List sta) : Prop := rw v m 5 = J ps.length ∧ ps.length ≤ 8 ∧ ∀ i s, ps[i]? = some s → sV s ∧ rwM (fun k => rw v (m + 5) (199 * (ps.length - 1 - i) + k)) s
theorem gm_keep37 {r : Nat} {s : sta} (hN : 100000 ≤ N) (hl : mdL S m) (hr : r = m + 1 ∨ r = m + 3) (hs : rwM (rw v r) s) (hV : sV s) (hP : pR v m ps) (h7 : ps.length ≤ 7) :
    ∃ P, K_gm_keepsPast_37 N S v m r = some (wr (wr v (m + 5) P) m (up (rw v m) 5 (J ((ps.length + 1 : Nat) : Int)))) ∧ pR (wr (wr v (m + 5) P) m (up (rw v m) 5 (J ((ps.length + 1 : Nat) : Int)))) m (s :: ps) := by
  obtain ⟨p1, p2, p3⟩ := hP
  obtain ⟨l0, l1, l2, -, ⟨-, l3⟩, -, ⟨l4, l5⟩, -⟩ := id hl
  have kr : kin S r = some (1, 199) := by rcases hr with z | z <;> rw [z] <;> assumption
  have c := gm_copies (S := S) (v := v) (a := r) (b := m + 5) (i := 0) (j := 199 * ps.length) (cnt := 199) hN kr l5 (by omega) (by omega) (by decide) (by decide) (Or.inl (by omega))
  have ne5 : m ≠ m + 5 := by omega
  refine ⟨cpR (rw v r) (rw v (m + 5)) 0 (199 * ps.length) 199, ?_, ?_, ?_, fun i s' his => ?_⟩
  · unfold K_gm_keepsPast_37
    rw [grd_true _ l0, l4]
    simp only [Option.bind_some]
    rw [gi_rw, p1, ← J_mul, show (199 : Int) * (ps.length : Int) = ((199 * ps.length : Nat) : Int) by omega, show J 0 = J ((0 : Nat) : Int) from rfl, show J 199 = J ((199 : Nat) : Int) from rfl, c]
    simp only [Option.bind_some, lt_def, si_wr, gi_x, rw_wr_ne ne5, p1]
    rw [J_s]
  · rw [rw_wr, up_same]
    rfl
  · show ps.length + 1 ≤ 8; omega
  · have e : rw (wr (wr v (m + 5) (cpR (rw v r) (rw v (m + 5)) 0 (199 * ps.length) 199)) m (up (rw v m) 5 (J ((ps.length + 1 : Nat) : Int)))) (m + 5) = cpR (rw v r) (rw v (m + 5)) 0 (199 * ps.length) 199 := by rw [rw_wr_ne (by omega), rw_wr]
    rw [e]
    cases i with
    | zero =>
      have h' : some s = some s' := his
      cases h'
      refine ⟨hV, rwM_ag hs hV (fun k hk => ?_)⟩
      show cpR (rw v r) (rw v (m + 5)) 0 (199 * ps.length) 199 (199 * (ps.length + 1 - 1 - 0) + k) = _
      unfold cpR
      rw [if_pos (by omega)]
      congr 1
      omega
    | succ j =>
      have h' : ps[j]? = some s' := his
      have jl := get_lt h'
      obtain ⟨y1, y2⟩ := p3 j s' h'
      refine ⟨y1, rwM_ag y2 y1 (fun k hk => ?_)⟩
      show cpR (rw v r) (rw v (m + 5)) 0 (199 * ps.length) 199 (199 * (ps.length + 1 - 1 - (j + 1)) + k) = rw v (m + 5) (199 * (ps.length - 1 - j) + k)
      unfold cpR
      rw [if_neg (by omega)]
      congr 1
      omega
/-- what keeping leaves as it was -/
def kpF (m : Nat) (v v' : vl) : Prop := v'.2 = v.2 ∧ (∀ x, x ≠ m → x ≠ m + 5 → rw v' x = rw v x) ∧ ∀ k, k ≠ 5 → rw v' m k = rw v m k
theorem kpF_w {P : Nat → Int32} {x : Int32} : kpF m v (wr (wr v (m + 5) P) m (up (rw v m) 5 x)) :=
  ⟨rfl, fun y h1 h2 => by rw [rw_wr_ne h1, rw_wr_ne h2], fun k hk => by rw [rw_wr, up_ne hk]⟩
theorem kpF_tr {u w : vl} (h1 : kpF m v u) (h2 : kpF m u w) : kpF m v w :=
  ⟨h2.1.trans h1.1, fun x a1 a2 => (h2.2.1 x a1 a2).trans (h1.2.1 x a1 a2), fun k hk => (h2.2.2 k hk).trans (h1.2.2 k hk)⟩
theorem tkL_all : ∀ (n : Nat) (l : List sta), l.length ≤ n → tkL n l = l
  | 0, [], _ => rfl
  | 0, x :: l, h => absurd h (by simp)
  | n + 1, [], _ => rfl
  | n + 1, x :: l, h => by
    show x :: tkL n l = x :: l
    rw [tkL_all n l (by have : l.length + 1 ≤ n + 1 := h; omega)]
theorem gm_keepsPast {r : Nat} {s : sta} (hN : 100000 ≤ N) (hl : mdL S m) (hr : r = m + 1 ∨ r = m + 3) (hs : rwM (rw v r) s) (hV : sV s) (hP : pR v m ps) :
    ∃ v', F_gm_keepsPast N m r S v = some v' ∧ pR v' m (keepP s ps) ∧ kpF m v v' := by
  obtain ⟨l0, l1, l2, -, ⟨-, l3⟩, -, ⟨l4, l5⟩, -⟩ := id hl
  obtain ⟨p1, p2, p3⟩ := id hP
  have ne5 : m ≠ m + 5 := by omega
  unfold F_gm_keepsPast
  rw [grd_true _ l0, gi_rw, p1]
  by_cases q : ps.length = 8
  · have c := gm_copies (S := S) (v := v) (a := m + 5) (b := m + 5) (i := 199) (j := 0) (cnt := 1393) hN l5 l5 (by omega) (by omega) (by decide) (by decide) (Or.inr (by omega))
    rw [if_pos (by rw [q]; rfl), l4]
    simp only [Option.bind_some]
    rw [show J 0 = J ((0 : Nat) : Int) from rfl, show J 199 = J ((199 : Nat) : Int) from rfl, show J 1393 = J ((1393 : Nat) : Int) from rfl, c]
    simp only [Option.bind_some, lt_def, si_wr, gi_x, rw_wr_ne ne5, p1]
    rw [q, ← J_sub]
    have hP7 : pR (wr (wr v (m + 5) (cpR (rw v (m + 5)) (rw v (m + 5)) 199 0 1393)) m (up (rw v m) 5 (J (((8 : Nat) : Int) - 1)))) m (tkL 7 ps) := by
      have hlen : (tkL 7 ps).length = 7 := by rw [tkL_len, q]; rfl
      refine ⟨by rw [rw_wr, up_same, hlen]; rfl, by omega, fun i s' his => ?_⟩
      obtain ⟨i7, is⟩ := tkL_get 7 ps i s' his
      obtain ⟨y1, y2⟩ := p3 i s' is
      have e : rw (wr (wr v (m + 5) (cpR (rw v (m + 5)) (rw v (m + 5)) 199 0 1393)) m (up (rw v m) 5 (J (((8 : Nat) : Int) - 1)))) (m + 5) = cpR (rw v (m + 5)) (rw v (m + 5)) 199 0 1393 := by rw [rw_wr_ne (by omega), rw_wr]
      refine ⟨y1, rwM_ag y2 y1 (fun k hk => ?_)⟩
      rw [e, hlen, q]
      unfold cpR
      rw [if_pos (by omega)]
      congr 1
      omega
    have hs' : rwM (rw (wr (wr v (m + 5) (cpR (rw v (m + 5)) (rw v (m + 5)) 199 0 1393)) m (up (rw v m) 5 (J (((8 : Nat) : Int) - 1)))) r) s := by
      rw [rw_wr_ne (by omega), rw_wr_ne (by omega)]; exact hs
    have hlen : (tkL 7 ps).length = 7 := by rw [tkL_len, q]; rfl
    obtain ⟨P, e1, e2⟩ := gm_keep37 (N := N) hN hl hr hs' hV hP7 (by omega)
    exact ⟨_, e1, e2, kpF_tr kpF_w kpF_w⟩
  · have e7 : tkL 7 ps = ps := tkL_all 7 ps (by omega)
    rw [if_neg (fun z => by have := (J_eq (x := (ps.length : Int)) (y := 8) (by omega) (by decide)).mp z; omega)]
    obtain ⟨P, e1, e2⟩ := gm_keep37 (N := N) hN hl hr hs hV hP (by omega)
    refine ⟨_, e1, ?_, kpF_w⟩
    unfold keepP
    rw [e7]
    exact e2
end UNDO
