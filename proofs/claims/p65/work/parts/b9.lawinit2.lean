/-! The law's beginning, whole. -/
section LAWINIT2
variable {S S' S0 : shp} {v v' v0 : vl} {a o N j k p0 n r len r' len' : Nat} {f0 f1 f2 : Nat → Int32} {L M L' : List Int} {A P : Int} {t p : Nat → Int}
/-- the first statements of the law's text -/
def hdT (st d ag P G Q : Int) : List Int := [] ++ sC ++ numL st ++ sD ++ numL d ++ sA ++ numL ag ++ sP ++ numL P ++ sG ++ numL G ++ sQ ++ numL Q ++ [59]
def hdB (st d ag P G Q : Int) : Prop := (10 ≤ st ∧ st ≤ 41) ∧ (-50 ≤ d ∧ d ≤ 49) ∧ (-1 ≤ ag ∧ ag ≤ 1) ∧ isP P ∧ (1 ≤ G ∧ G ≤ 16) ∧ (1 ≤ Q ∧ Q ≤ 8)
def hdF (f : Nat → Int32) (st d ag P G Q m : Int) : Prop := (f 0 = J st ∧ f 1 = J m ∧ f 9 = J P ∧ f 10 = J G ∧ f 11 = J Q ∧ f 13 = J d ∧ f 14 = J ag) ∧ ∀ j, j ≠ 0 → j ≠ 1 → j ≠ 9 → j ≠ 10 → j ≠ 11 → j ≠ 13 → j ≠ 14 → f j = 0
theorem oc2_s {α : Type} {a : Nat} {t : α} {f : Nat → α} : oc2 (some a) t f = f a := rfl
theorem isP_16 (h : isP P) : 1 ≤ P ∧ P ≤ 16 := by
  unfold isP at h
  omega
theorem hdT_len {st d ag P G Q : Int} (h : hdB st d ag P G Q) : (hdT st d ag P G Q).length ≤ 56 := by
  obtain ⟨h1, h2, h3, h4, h5, h6⟩ := h
  have h4' := isP_16 h4
  have n1 := (num_le (x := st) (d := 2) (show st.natAbs < 100 by omega) (by decide)).2 (by omega)
  have n2 := (num_le (x := d) (d := 2) (show d.natAbs < 100 by omega) (by decide)).1
  have n3 := (num_le (x := ag) (d := 1) (show ag.natAbs < 10 by omega) (by decide)).1
  have n4 := (num_le (x := P) (d := 2) (show P.natAbs < 100 by omega) (by decide)).2 (by omega)
  have n5 := (num_le (x := G) (d := 2) (show G.natAbs < 100 by omega) (by decide)).2 (by omega)
  have n6 := (num_le (x := Q) (d := 1) (show Q.natAbs < 10 by omega) (by decide)).2 (by omega)
  unfold hdT sC sD sA sP sG sQ
  simp only [List.length_append, List.length_cons, List.length_nil]
  omega
theorem iq_new (hw : wfS S0) (ho : o = nxt S0) : ∃ A1 A2 A3 A4 u2 B vB A5, lt3 (grow (grow S0 (0, 6) (fTN 6).2.1) (1, 4) 4) (o + 1) (zero (zero v0 o) (o + 1)) (fun a b c => a = A1 ∧ b = o + 1 ∧ c = zero (zero v0 o) (o + 1)) ∧ nxt (grow S0 (0, 6) (fTN 6).2.1) = o + 1 ∧ (kin (grow S0 (0, 6) (fTN 6).2.1) (o + 1) = none ∧ kin A1 o = some (0, 6) ∧ A2 = sr A1 o 2 (some (o + 1))) ∧ (nxt A2 = o + 2 ∧ kin A2 (o + 2) = none ∧ A3 = grow A2 (1, 4) 4 ∧ u2 = zero (zero (zero v0 o) (o + 1)) (o + 2) ∧ kin A3 o = some (0, 6) ∧ A4 = sr A3 o 3 (some (o + 2))) ∧ (nxt A4 = o + 3 ∧ kin A4 (o + 3) = none ∧ F_sb_init (o + 3) (grow A4 (0, 7) (fTN 7).2.1) (zero u2 (o + 3)) = some (B, vB) ∧ kin B o = some (0, 6) ∧ A5 = sr B o 24 (some (o + 3))) ∧ IQ S0 v0 o (fun _ => 0) (fun _ => 0) (fun _ => 0) [] A5 vB := by
  obtain ⟨S1, e1⟩ : ∃ S1, S1 = grow S0 (0, 6) (fTN 6).2.1 := ⟨_, rfl⟩
  obtain ⟨v1, ev1⟩ : ∃ v1, v1 = zero v0 o := ⟨_, rfl⟩
  have m1 : mkG (fun _ _ => False) o 1 25 S0 v0 S1 v1 := by
    rw [e1, ev1, ho]
    exact mkG_grow hw
  have n1 : nxt S1 = o + 1 := by rw [nxt_mk m1, ho]
  have w1 : wfS S1 := m1.2.2.2.2.2.2
  have k1 : kin S1 o = some (0, 6) := by rw [e1, kin_grow, if_pos ho]
  have r1 : ∀ j, rw v1 o j = 0 := fun j => by rw [ev1, rw_zero0]
  have d1 : ∀ j, v1.2 o j = 0 := fun j => by rw [ev1]; exact if_pos rfl
  obtain ⟨A1, eA1⟩ : ∃ A1, A1 = grow S1 (1, 4) 4 := ⟨_, rfl⟩
  obtain ⟨u1, eu1⟩ : ∃ u1, u1 = zero v1 (o + 1) := ⟨_, rfl⟩
  have m2 : mkG (fun _ _ => False) (o + 1) 1 4 S1 v1 A1 u1 := by
    rw [eA1, eu1, ← n1]
    exact mkG_grow w1
  have wA1 : wfS A1 := m2.2.2.2.2.2.2
  obtain ⟨A2, eA2⟩ : ∃ A2, A2 = sr A1 o 2 (some (o + 1)) := ⟨_, rfl⟩
  have m3 : mkG (fun x j => x = o ∧ j = 2) (o + 2) 0 0 A1 u1 A2 u1 := by rw [eA2]; exact mkG_sr wA1
  have wA2 : wfS A2 := m3.2.2.2.2.2.2
  have n2 : nxt A2 = o + 2 := by rw [nxt_mk m3, nxt_mk m2, n1]
  obtain ⟨A3, eA3⟩ : ∃ A3, A3 = grow A2 (1, 4) 4 := ⟨_, rfl⟩
  obtain ⟨u2, eu2⟩ : ∃ u2, u2 = zero u1 (o + 2) := ⟨_, rfl⟩
  have m4 : mkG (fun _ _ => False) (o + 2) 1 4 A2 u1 A3 u2 := by
    rw [eA3, eu2, ← n2]
    exact mkG_grow wA2
  have wA3 : wfS A3 := m4.2.2.2.2.2.2
  obtain ⟨A4, eA4⟩ : ∃ A4, A4 = sr A3 o 3 (some (o + 2)) := ⟨_, rfl⟩
  have m5 : mkG (fun x j => x = o ∧ j = 3) (o + 3) 0 0 A3 u2 A4 u2 := by rw [eA4]; exact mkG_sr wA3
  have wA4 : wfS A4 := m5.2.2.2.2.2.2
  have n4 : nxt A4 = o + 3 := by rw [nxt_mk m5, nxt_mk m4, n2]
  obtain ⟨B, vB, g1, g2, m6⟩ := sb_new (v := u2) wA4
  rw [n4] at g1 g2 m6
  have wB : wfS B := m6.2.2.2.2.2.2
  obtain ⟨A5, eA5⟩ : ∃ A5, A5 = sr B o 24 (some (o + 3)) := ⟨_, rfl⟩
  have m7 : mkG (fun x j => x = o ∧ j = 24) (o + 5) 0 0 B vB A5 vB := by rw [eA5]; exact mkG_sr wB
  have kA1 : kin A1 o = some (0, 6) := by rw [(m2.1 o (by omega)).1]; exact k1
  have kA3 : kin A3 o = some (0, 6) := by rw [(m4.1 o (by omega)).1, (m3.1 o (by omega)).1]; exact kA1
  have kB : kin B o = some (0, 6) := by rw [(m6.1 o (by omega)).1, (m5.1 o (by omega)).1]; exact kA3
  have ka1 : kin A1 (o + 1) = some (1, 4) := by rw [eA1, kin_grow, if_pos n1.symm]
  have ka2 : kin A3 (o + 2) = some (1, 4) := by rw [eA3, kin_grow, if_pos n2.symm]
  have M := mkG_tr (Nat.le_refl o) (mkG_tr (Nat.le_refl o) (mkG_tr (Nat.le_refl o) (mkG_tr (Nat.le_refl o) (mkG_tr (Nat.le_refl o) (mkG_tr (Nat.le_refl o) m1 (mkG_dn m2 (by omega) (fun _ _ _ h => h)) (fun _ _ _ h => h)) (mkG_dn m3 (by omega) (fun x j hx q => by omega)) (fun _ _ _ h => h)) (mkG_dn m4 (by omega) (fun _ _ _ h => h)) (fun _ _ _ h => h)) (mkG_dn m5 (by omega) (fun x j hx q => by omega)) (fun _ _ _ h => h)) (mkG_dn m6 (by omega) (fun _ _ _ h => h)) (fun _ _ _ h => h)) (mkG_dn m7 (by omega) (fun x j hx q => by omega)) (fun _ _ _ h => h)
  obtain ⟨a1, a2, a3, a4, a5, a6, a7⟩ := M
  obtain ⟨⟨b1, b2, b3⟩, b4, b5⟩ := g2
  refine ⟨A1, A2, A3, A4, u2, B, vB, A5, ?_, ?_, ?_, ?_, ?_, ?_⟩
  · rw [← e1, ← eA1]; exact ⟨rfl, rfl, rfl⟩
  · rw [← e1]; exact n1
  · rw [← e1]; exact ⟨w1 _ (by omega), kA1, eA2⟩
  · rw [← ev1, ← eu1]; exact ⟨n2, wA2 _ (by omega), eA3, eu2, kA3, eA4⟩
  · exact ⟨n4, wA4 _ (by omega), g1, kB, eA5⟩
  · have z0 : (0 : Int32) = J 0 := by decide
    refine ⟨o + 4, 16, a7, ⟨⟨?_, ⟨?_, ?_⟩, ?_, ?_, ⟨by decide, Or.inl rfl⟩, fun i => ⟨0, ?_⟩, fun i hi => absurd hi (Nat.not_lt_zero _)⟩, Nat.le_refl _, Nat.le_refl _⟩, fun x hx => ?_, ⟨a3, a4⟩, by omega, by omega, ⟨⟨?_, ?_, ?_, ?_, ?_⟩, ?_⟩, ?_, ?_, ?_, fun j => ?_⟩
    · rw [(m7.1 (o + 3) (by omega)).1]; exact b1
    · rw [b4]; exact z0
    · rw [b4]; exact z0
    · rw [m7.2.1 (o + 3) 0 (by omega) (by omega)]; exact b2
    · rw [(m7.1 (o + 4) (by omega)).1]; exact b3
    · rw [b5]; decide
    · exact ⟨(a1 x hx).1, (a1 x hx).2.1, (a1 x hx).2.2, fun j => a2 x j hx (fun h => h)⟩
    · rw [(m7.1 o (by omega)).1]; exact kB
    · rw [m7.2.1 o 2 (by omega) (by omega), m6.2.1 o 2 (by omega) (fun h => h), m5.2.1 o 2 (by omega) (by omega), m4.2.1 o 2 (by omega) (fun h => h), eA2, gr_sr, if_pos ⟨rfl, rfl⟩]
    · rw [(m7.1 (o + 1) (by omega)).1, (m6.1 (o + 1) (by omega)).1, (m5.1 (o + 1) (by omega)).1, (m4.1 (o + 1) (by omega)).1, (m3.1 (o + 1) (by omega)).1]; exact ka1
    · rw [m7.2.1 o 3 (by omega) (by omega), m6.2.1 o 3 (by omega) (fun h => h), eA4, gr_sr, if_pos ⟨rfl, rfl⟩]
    · rw [(m7.1 (o + 2) (by omega)).1, (m6.1 (o + 2) (by omega)).1, (m5.1 (o + 2) (by omega)).1]; exact ka2
    · rw [eA5, gr_sr, if_pos ⟨rfl, rfl⟩]
    · funext j
      rw [(m6.1 o (by omega)).2.1, (m4.1 o (by omega)).2.1, (m2.1 o (by omega)).2.1]
      exact r1 j
    · rw [(m6.1 (o + 1) (by omega)).2.1, (m4.1 (o + 1) (by omega)).2.1, eu1, rw_zero0]
    · rw [(m6.1 (o + 2) (by omega)).2.1, eu2, rw_zero0]
    · rw [(m6.1 o (by omega)).2.2, (m4.1 o (by omega)).2.2, (m2.1 o (by omega)).2.2]
      exact d1 j
noncomputable def W_end (N a0 a1 : Nat) (S : shp) (v : vl) : Option (shp × vl) :=
  (F_lw_cell a1 (J 1) S v).bind fun x126 => (F_lw_bits x126 (J 0) (J 5) S v).bind fun x127 => K_lw_init_230 N  N S v a0 a1 x127 (J 0)
noncomputable def W_h2 (N a0 a1 r89 : Nat) (S : shp) (v : vl) : Option (shp × vl) :=
  grd (kin S r89 = some (0, 7)) <| (F_sb_append2 N r89 (gi v a0 9) S v).bind fun (q91, S92, w93) => oc2 q91 none fun r95 => grd (kin S92 r95 = some (0, 7)) <| (F_sb_append r95 (kad S92 21) S92 w93).bind fun (q97, S98, w99) => oc2 q97 none fun r101 => grd (kin S98 r101 = some (0, 7)) <| (F_sb_append2 N r101 (gi w99 a0 10) S98 w99).bind fun (q103, S104, w105) => oc2 q103 none fun r107 => grd (kin S104 r107 = some (0, 7)) <| (F_sb_append r107 (kad S104 22) S104 w105).bind fun (q109, S110, w111) => oc2 q109 none fun r113 => grd (kin S110 r113 = some (0, 7)) <| (F_sb_append2 N r113 (gi w111 a0 11) S110 w111).bind fun (q115, S116, w117) => oc2 q115 none fun r119 => grd (kin S116 r119 = some (0, 7)) <| (F_sb_append3 r119 (J 59) S116 w117).bind fun (q121, S122, w123) => oc2 q121 none fun r125 => W_end N a0 a1 S122 w123
noncomputable def W_hd (N a0 a1 : Nat) (S : shp) (v : vl) : Option (shp × vl) :=
  (gr S a0 24).bind fun r46 => grd (kin S r46 = some (0, 7)) <| (F_sb_append r46 (kad S 17) S v).bind fun (q49, S50, w51) => oc2 q49 none fun r53 => grd (kin S50 r53 = some (0, 7)) <| (F_sb_append2 N r53 (gi w51 a0 0) S50 w51).bind fun (q55, S56, w57) => oc2 q55 none fun r59 => grd (kin S56 r59 = some (0, 7)) <| (F_sb_append r59 (kad S56 18) S56 w57).bind fun (q61, S62, w63) => oc2 q61 none fun r65 => grd (kin S62 r65 = some (0, 7)) <| (F_sb_append2 N r65 (gi w63 a0 13) S62 w63).bind fun (q67, S68, w69) => oc2 q67 none fun r71 => grd (kin S68 r71 = some (0, 7)) <| (F_sb_append r71 (kad S68 19) S68 w69).bind fun (q73, S74, w75) => oc2 q73 none fun r77 => grd (kin S74 r77 = some (0, 7)) <| (F_sb_append2 N r77 (gi w75 a0 14) S74 w75).bind fun (q79, S80, w81) => oc2 q79 none fun r83 => grd (kin S80 r83 = some (0, 7)) <| (F_sb_append r83 (kad S80 20) S80 w81).bind fun (q85, S86, w87) => oc2 q85 none fun r89 => W_h2 N a0 a1 r89 S86 w87
noncomputable def W_in (N a0 a1 : Nat) (S : shp) (v : vl) : Option (shp × vl) :=
  (F_lw_cell a1 (J 0) S v).bind fun x31 => (F_lw_bits x31 (J 0) (J 5) S v).bind fun x32 => lt (si v a0 0 ((J 10) + x32)) fun w33 => (F_lw_bits x31 (J 5) (J 7) S w33).bind fun x34 => lt (si w33 a0 13 ((x34 - x34 / (J 100) * (J 100)) - (J 50))) fun w35 => (F_lw_bits x31 (J 12) (J 2) S w35).bind fun x36 => lt (si w35 a0 14 ((x36 - x36 / (J 3) * (J 3)) - (J 1))) fun w37 => (F_lw_bits x31 (J 14) (J 3) S w37).bind fun x38 => lt (si w37 a0 9 ((J 1) <<< ((x38 - x38 / (J 5) * (J 5)) &&& 31))) fun w39 => (F_lw_bits x31 (J 17) (J 4) S w39).bind fun x40 => lt (si w39 a0 10 ((J 1) + x40)) fun w41 => (F_lw_bits x31 (J 21) (J 3) S w41).bind fun x42 => lt (si w41 a0 11 ((J 1) + x42)) fun w43 => (F_lw_bits x31 (J 24) (J 2) S w43).bind fun x44 => lt (si w43 a0 1 ((J 1) + x44)) fun w45 => W_hd N a0 a1 S w45
noncomputable def W_top (N a0 a1 : Nat) (S : shp) (v : vl) : Option (shp × vl) :=
  grd (kin S (nxt S) = none) <| lt3 (grow S (1, 4) 4) (nxt S) (zero v (nxt S)) fun S2 r3 v4 => grd (kin S2 a0 = some (0, 6)) <| lt (sr S2 a0 2 (some r3)) fun S8 => grd (kin S8 (nxt S8) = none) <| lt3 (grow S8 (1, 4) 4) (nxt S8) (zero v4 (nxt S8)) fun S11 r12 v13 => grd (kin S11 a0 = some (0, 6)) <| lt (sr S11 a0 3 (some r12)) fun S17 => grd (kin S17 (nxt S17) = none) <| lt3 (grow S17 (0, 7) (fTN 7).2.1) (nxt S17) (zero v13 (nxt S17)) fun S20 r21 v22 => (F_sb_init r21 S20 v22).bind fun (S25, w26) => grd (kin S25 a0 = some (0, 6)) <| lt (sr S25 a0 24 (some r21)) fun S29 => W_in N a0 a1 S29 w26
theorem W_eq (N a0 a1 : Nat) (S : shp) (v : vl) : F_lw_init N a0 a1 S v = W_top N a0 a1 S v := rfl
theorem hd_ok {st d ag P G Q m : Int} (hN : 100 ≤ N) (hW : wdA S0 v0 o) (hT : dtT S0 v0 o) (R0 : IQ S0 v0 o f0 f1 f2 [] S v) (hB : hdB st d ag P G Q) (hF : hdF f0 st d ag P G Q m) : ∃ S' v', W_hd N o p0 S v = W_h2 N o p0 (o + 3) S' v' ∧ IQ S0 v0 o f0 f1 f2 ([] ++ sC ++ numL st ++ sD ++ numL d ++ sA ++ numL ag ++ sP) S' v' := by
  obtain ⟨⟨F0, F1, F9, F10, F11, F13, F14⟩, -⟩ := id hF
  obtain ⟨p1, p2, p3, p4, p5, p6⟩ := hB
  have p4' := isP_16 p4
  have n1 := (num_le (x := st) (d := 2) (show st.natAbs < 100 by omega) (by decide)).1
  have n2 := (num_le (x := d) (d := 2) (show d.natAbs < 100 by omega) (by decide)).1
  have n3 := (num_le (x := ag) (d := 1) (show ag.natAbs < 10 by omega) (by decide)).1
  have n4 := (num_le (x := P) (d := 2) (show P.natAbs < 100 by omega) (by decide)).1
  have n5 := (num_le (x := G) (d := 2) (show G.natAbs < 100 by omega) (by decide)).1
  have n6 := (num_le (x := Q) (d := 1) (show Q.natAbs < 10 by omega) (by decide)).1
  have gsC : sC.length = 6 := rfl
  have gsD : sD.length = 7 := rfl
  have gsA : sA.length = 5 := rfl
  have gsP : sP.length = 10 := rfl
  have gsG : sG.length = 6 := rfl
  have gsQ : sQ.length = 9 := rfl
  obtain ⟨S1, v1, e1, R1⟩ := iq_str R0 hW.1 (by simp only [List.length_append, List.length_nil]; omega) (by omega)
  obtain ⟨S2, v2, e2, R2⟩ := iq_num (N := N) (x := st) hN R1 hT (by omega) (by simp only [List.length_append, List.length_nil]; omega)
  obtain ⟨S3, v3, e3, R3⟩ := iq_str R2 hW.2.1 (by simp only [List.length_append, List.length_nil]; omega) (by omega)
  obtain ⟨S4, v4, e4, R4⟩ := iq_num (N := N) (x := d) hN R3 hT (by omega) (by simp only [List.length_append, List.length_nil]; omega)
  obtain ⟨S5, v5, e5, R5⟩ := iq_str R4 hW.2.2.1 (by simp only [List.length_append, List.length_nil]; omega) (by omega)
  obtain ⟨S6, v6, e6, R6⟩ := iq_num (N := N) (x := ag) hN R5 hT (by omega) (by simp only [List.length_append, List.length_nil]; omega)
  obtain ⟨S7, v7, e7, R7⟩ := iq_str R6 hW.2.2.2.1 (by simp only [List.length_append, List.length_nil]; omega) (by omega)
  refine ⟨S7, v7, ?_, R7⟩
  unfold W_hd
  rw [(iq_l R0).2]
  simp only [Option.bind_some]
  rw [grd_true _ (iq_kb R0), e1]
  simp only [Option.bind_some]
  rw [oc2_s]
  rw [grd_true _ (iq_kb R1), show gi v1 o 0 = J st by rw [gi_rw, (iq_r R1).1, F0], e2]
  simp only [Option.bind_some]
  rw [oc2_s]
  rw [grd_true _ (iq_kb R2), e3]
  simp only [Option.bind_some]
  rw [oc2_s]
  rw [grd_true _ (iq_kb R3), show gi v3 o 13 = J d by rw [gi_rw, (iq_r R3).1, F13], e4]
  simp only [Option.bind_some]
  rw [oc2_s]
  rw [grd_true _ (iq_kb R4), e5]
  simp only [Option.bind_some]
  rw [oc2_s]
  rw [grd_true _ (iq_kb R5), show gi v5 o 14 = J ag by rw [gi_rw, (iq_r R5).1, F14], e6]
  simp only [Option.bind_some]
  rw [oc2_s]
  rw [grd_true _ (iq_kb R6), e7]
  simp only [Option.bind_some]
  rw [oc2_s]
theorem h2_ok {st d ag P G Q m : Int} (hN : 100 ≤ N) (hW : wdA S0 v0 o) (hT : dtT S0 v0 o) (R0 : IQ S0 v0 o f0 f1 f2 ([] ++ sC ++ numL st ++ sD ++ numL d ++ sA ++ numL ag ++ sP) S v) (hB : hdB st d ag P G Q) (hF : hdF f0 st d ag P G Q m) : ∃ S' v', W_h2 N o p0 (o + 3) S v = W_end N o p0 S' v' ∧ IQ S0 v0 o f0 f1 f2 (hdT st d ag P G Q) S' v' := by
  obtain ⟨⟨F0, F1, F9, F10, F11, F13, F14⟩, -⟩ := id hF
  obtain ⟨p1, p2, p3, p4, p5, p6⟩ := hB
  have p4' := isP_16 p4
  have n1 := (num_le (x := st) (d := 2) (show st.natAbs < 100 by omega) (by decide)).1
  have n2 := (num_le (x := d) (d := 2) (show d.natAbs < 100 by omega) (by decide)).1
  have n3 := (num_le (x := ag) (d := 1) (show ag.natAbs < 10 by omega) (by decide)).1
  have n4 := (num_le (x := P) (d := 2) (show P.natAbs < 100 by omega) (by decide)).1
  have n5 := (num_le (x := G) (d := 2) (show G.natAbs < 100 by omega) (by decide)).1
  have n6 := (num_le (x := Q) (d := 1) (show Q.natAbs < 10 by omega) (by decide)).1
  have gsC : sC.length = 6 := rfl
  have gsD : sD.length = 7 := rfl
  have gsA : sA.length = 5 := rfl
  have gsP : sP.length = 10 := rfl
  have gsG : sG.length = 6 := rfl
  have gsQ : sQ.length = 9 := rfl
  obtain ⟨S8, v8, e8, R8⟩ := iq_num (N := N) (x := P) hN R0 hT (by omega) (by simp only [List.length_append, List.length_nil]; omega)
  obtain ⟨S9, v9, e9, R9⟩ := iq_str R8 hW.2.2.2.2.1 (by simp only [List.length_append, List.length_nil]; omega) (by omega)
  obtain ⟨S10, v10, e10, R10⟩ := iq_num (N := N) (x := G) hN R9 hT (by omega) (by simp only [List.length_append, List.length_nil]; omega)
  obtain ⟨S11, v11, e11, R11⟩ := iq_str R10 hW.2.2.2.2.2.1 (by simp only [List.length_append, List.length_nil]; omega) (by omega)
  obtain ⟨S12, v12, e12, R12⟩ := iq_num (N := N) (x := Q) hN R11 hT (by omega) (by simp only [List.length_append, List.length_nil]; omega)
  obtain ⟨S13, v13, e13, R13⟩ := iq_chr (c := 59) R12 (by decide) (by simp only [List.length_append, List.length_nil]; omega)
  refine ⟨S13, v13, ?_, R13⟩
  unfold W_h2
  rw [grd_true _ (iq_kb R0), show gi v o 9 = J P by rw [gi_rw, (iq_r R0).1, F9], e8]
  simp only [Option.bind_some]
  rw [oc2_s]
  rw [grd_true _ (iq_kb R8), e9]
  simp only [Option.bind_some]
  rw [oc2_s]
  rw [grd_true _ (iq_kb R9), show gi v9 o 10 = J G by rw [gi_rw, (iq_r R9).1, F10], e10]
  simp only [Option.bind_some]
  rw [oc2_s]
  rw [grd_true _ (iq_kb R10), e11]
  simp only [Option.bind_some]
  rw [oc2_s]
  rw [grd_true _ (iq_kb R11), show gi v11 o 11 = J Q by rw [gi_rw, (iq_r R11).1, F11], e12]
  simp only [Option.bind_some]
  rw [oc2_s]
  rw [grd_true _ (iq_kb R12), show J 59 = J ((59 : Nat) : Int) from rfl, e13]
  simp only [Option.bind_some]
  rw [oc2_s]
theorem in_ok (Q0 : IQ S0 v0 o (fun _ => 0) (fun _ => 0) (fun _ => 0) [] S v) (hp : kin S0 p0 = some (11, n)) (hp0 : p0 < o) (hn : n ≤ 65536) : ∃ st d ag P G Q m f0 w, W_in N o p0 S v = W_hd N o p0 S w ∧ IQ S0 v0 o f0 (fun _ => 0) (fun _ => 0) [] S w ∧ hdB st d ag P G Q ∧ hdF f0 st d ag P G Q ((m : Nat) : Int) ∧ (1 ≤ m ∧ m ≤ 4) := by
  obtain ⟨x, ex⟩ := lw_cell_ok (S := S) (i := 0) (by rw [iq_p Q0 hp0]; exact hp) hn (by decide)
  obtain ⟨y1, b1, c1, d1⟩ := lwb_ok (f := J 0) (m := J 5) (n := 31) (by decide) (by decide) (x v)
  obtain ⟨y2, b2, c2, d2⟩ := lwb_ok (f := J 5) (m := J 7) (n := 127) (by decide) (by decide) (x v)
  obtain ⟨y3, b3, c3, d3⟩ := lwb_ok (f := J 12) (m := J 2) (n := 3) (by decide) (by decide) (x v)
  obtain ⟨y4, b4, c4, d4⟩ := lwb_ok (f := J 14) (m := J 3) (n := 7) (by decide) (by decide) (x v)
  obtain ⟨y5, b5, c5, d5⟩ := lwb_ok (f := J 17) (m := J 4) (n := 15) (by decide) (by decide) (x v)
  obtain ⟨y6, b6, c6, d6⟩ := lwb_ok (f := J 21) (m := J 3) (n := 7) (by decide) (by decide) (x v)
  obtain ⟨y7, b7, c7, d7⟩ := lwb_ok (f := J 24) (m := J 2) (n := 3) (by decide) (by decide) (x v)
  obtain ⟨P, eP, hP⟩ := sh5 (y := y4) ⟨c4, by omega⟩
  have hP16 := isP_16 hP
  obtain ⟨m, em⟩ : ∃ m : Nat, (m : Int) = 1 + y7 := ⟨(1 + y7).toNat, by omega⟩
  obtain ⟨st, est⟩ : ∃ st, st = 10 + y1 := ⟨_, rfl⟩
  obtain ⟨d, ed⟩ : ∃ d, d = y2 % 100 - 50 := ⟨_, rfl⟩
  obtain ⟨ag, eag⟩ : ∃ ag, ag = y3 % 3 - 1 := ⟨_, rfl⟩
  obtain ⟨G, eG⟩ : ∃ G, G = 1 + y5 := ⟨_, rfl⟩
  obtain ⟨Q, eQ⟩ : ∃ Q, Q = 1 + y6 := ⟨_, rfl⟩
  have hB : hdB st d ag P G Q := ⟨by omega, by omega, by omega, hP, by omega, by omega⟩
  obtain ⟨f0, ef0⟩ : ∃ f0, f0 = up (up (up (up (up (up (up (fun _ => 0) 0 (J st)) 13 (J d)) 14 (J ag)) 9 (J P)) 10 (J G)) 11 (J Q)) 1 (J (m : Int)) := ⟨_, rfl⟩
  have hF : hdF f0 st d ag P G Q (m : Int) := by
    rw [ef0]
    refine ⟨⟨by simp [up], by simp [up], by simp [up], by simp [up], by simp [up], by simp [up], by simp [up]⟩, fun j h1 h2 h3 h4 h5 h6 h7 => ?_⟩
    rw [up_ne h2, up_ne h5, up_ne h4, up_ne h3, up_ne h7, up_ne h6, up_ne h1]
  obtain ⟨w, ew⟩ : ∃ w, w = si (si (si (si (si (si (si v o 0 (J st)) o 13 (J d)) o 14 (J ag)) o 9 (J P)) o 10 (J G)) o 11 (J Q)) o 1 (J (m : Int)) := ⟨_, rfl⟩
  have R0 : IQ S0 v0 o f0 (fun _ => 0) (fun _ => 0) [] S w := by
    rw [ef0, ew]
    exact (iq_set (iq_set (iq_set (iq_set (iq_set (iq_set (iq_set Q0).1).1).1).1).1).1).1
  refine ⟨st, d, ag, P, G, Q, m, f0, w, ?_, R0, hB, hF, by omega⟩
  have ex0 : ∀ u, F_lw_cell p0 (J 0) S u = some (x u) := ex
  unfold W_in
  rw [ex0]
  rw [Option.bind_some]
  rw [b1]
  rw [Option.bind_some]
  rw [lt_def, ← J_add, ← est, b2]
  rw [Option.bind_some]
  rw [lt_def, J_rem (y := y2) (m := 100) (by omega) (by decide), ← J_sub, ← ed, b3]
  rw [Option.bind_some]
  rw [lt_def, J_rem (y := y3) (m := 3) (by omega) (by decide), ← J_sub, ← eag, b4]
  rw [Option.bind_some]
  rw [lt_def, eP, b5]
  rw [Option.bind_some]
  rw [lt_def, ← J_add, ← eG, b6]
  rw [Option.bind_some]
  rw [lt_def, ← J_add, ← eQ, b7]
  rw [Option.bind_some]
  rw [lt_def, ← J_add, ← em, ← ew]
theorem lw_init_ok (hN : 100 ≤ N) (hw : wfS S0) (ho : o = nxt S0) (hp : kin S0 p0 = some (11, n)) (hp0 : p0 < o) (hn : n ≤ 65536) (hW : wdA S0 v0 o) (hT : dtT S0 v0 o) : ∃ S' v' st d ag P G Q m t p f0 f1 f2, F_lw_init N o p0 (grow S0 (0, 6) (fTN 6).2.1) (zero v0 o) = some (S', v') ∧ IQ S0 v0 o f0 f1 f2 (hdT st d ag P G Q ++ sgU t p m) S' v' ∧ hdB st d ag P G Q ∧ hdF f0 st d ag P G Q (m : Int) ∧ (1 ≤ m ∧ m ≤ 4) ∧ (∀ i, i < m → f1 i = J (t i) ∧ f2 i = J (p i)) ∧ sgC t p m m ∧ (hdT st d ag P G Q ++ sgU t p m).length ≤ 116 := by
  obtain ⟨A1, A2, A3, A4, u2, B, vB, A5, ⟨i1, -, -⟩, i2, ⟨i3, i4, i5⟩, ⟨i6, i7, i8, i9, i10, i11⟩, ⟨i12, i13, i14, i15, i16⟩, Q0⟩ := iq_new (v0 := v0) hw ho
  obtain ⟨l0, l24⟩ := iq_l Q0
  obtain ⟨st, d, ag, P, G, Q, m, f0, w, e0, R0, hB, hF, hm⟩ := in_ok (N := N) Q0 hp hp0 hn
  obtain ⟨⟨F0, F1, F9, F10, F11, F13, F14⟩, -⟩ := id hF
  obtain ⟨S7, v7, e7, R7⟩ := hd_ok (p0 := p0) hN hW hT R0 hB hF
  obtain ⟨S13, v13, e13, R13⟩ := h2_ok (p0 := p0) hN hW hT R7 hB hF
  have hH := hdT_len hB
  obtain ⟨x', ex'⟩ := lw_cell_ok (S := S13) (i := 1) (by rw [iq_p R13 hp0]; exact hp) hn (by decide)
  obtain ⟨y8, b8, c8, d8⟩ := lwb_ok (f := J 0) (m := J 5) (n := 31) (by decide) (by decide) (x' v13)
  have R14 : IQ S0 v0 o f0 (fun _ => 0) (fun _ => 0) (hdT st d ag P G Q ++ sgU (fun _ => 0) (fun _ => 0) 0) S13 v13 := by
    rw [show hdT st d ag P G Q ++ sgU (fun _ => 0) (fun _ => 0) 0 = hdT st d ag P G Q from List.append_nil _]
    exact R13
  obtain ⟨S', v', t', p', f1', f2', z1, z2, z3, z4, z5⟩ := in_loop (m := m) (n := n) (p0 := p0) hN hW.2.2.2.2.2.2 hT hp hp0 hn (by omega) F1 hH m 0 N y8 (fun _ => 0) (fun _ => 0) _ _ S13 v13 (by omega) (by omega) R14 (Nat.zero_le _) (fun i hi => absurd hi (Nat.not_lt_zero _)) ⟨fun i hi => absurd hi (Nat.not_lt_zero _), fun i hi => absurd hi (Nat.not_lt_zero _), fun h => by omega⟩ ⟨by omega, by omega, fun i hi => absurd hi (Nat.not_lt_zero _)⟩
  refine ⟨S', v', st, d, ag, P, G, Q, m, t', p', f0, f1', f2', ?_, z2, hB, hF, by omega, z3, z4, by rw [List.length_append]; omega⟩
  · have ex1 : ∀ u, F_lw_cell p0 (J 1) S13 u = some (x' u) := ex'
    have z1' : K_lw_init_230 N N S13 v13 o p0 (J y8) (J 0) = some (S', v') := z1
    rw [W_eq]
    unfold W_top
    rw [i2, grd_true _ i3, lt3_def, i1, grd_true _ i4, lt_def, ← i5, i6, grd_true _ i7, lt3_def, ← i8, ← i9, grd_true _ i10, lt_def, ← i11, i12, grd_true _ i13, lt3_def, i14]
    simp only [Option.bind_some]
    rw [grd_true _ i15, lt_def, ← i16, e0, e7, e13]
    unfold W_end
    rw [ex1]
    simp only [Option.bind_some]
    rw [b8]
    simp only [Option.bind_some]
    exact z1'
end LAWINIT2