/-! The law: the start's shape and contents. -/
section START2
variable {s : State} {b L : Nat} {xs : Nat → Int32}
theorem start_world (hts : ∀ w ∈ lw_tbl, w.before #[Value.ref b] s = true) (hgv : gvn.before #[Value.ref b] s = true) (hL : L ≤ 260) (hX : va_X b L xs s s.heap) (hbl : b < s.heap.size) :
    ∃ (E : env) (S : shp) (v : vl), E.2 = s.heap ∧ tb E S s ∧ rel E S v s s.heap ∧ wfS S ∧ (nxt S = s.heap.size ∧ cn S = 0 ∧ cz S = 0) ∧ kin S b = some (11, L) ∧ tPs S v (nxt S) ∧ wdS S v (nxt S) lnW WW ∧ wdA S v (nxt S) ∧ dtT S v (nxt S) ∧ kad S 0 < nxt S := by
  have hA : ∀ a : Nat, a < s.heap.size → ¬ (fun q : Nat => s.heap.size ≤ q) a := fun a h => Nat.not_le.mpr h
  have hg := gL_ok hgv
  obtain ⟨D, hD⟩ := kn_all hts
  obtain ⟨adK, adV, ⟨hS1, hS2⟩, hS3⟩ := vk_Sof (args := #[Value.ref b]) (s := s) (N := 14) (tm := tmS) (len := lenW) (byt := bytW) (A := fun q : Nat => s.heap.size ≤ q) (by decide) (fun i hi => hg _ (List.mem_of_getElem? (sw_ex i hi))) (fun i hi => hg _ (List.mem_of_getElem? (sw_co i hi))) (fun i hi => hg _ (List.mem_of_getElem? (sw_ar i hi))) (fun i hi => hg _ (List.mem_of_getElem? (sw_le i hi))) (fun i hi j hj => hg _ (rng_in (sw_el i hi) j hj)) (fun i j hi hj hij => by
    rcases Nat.lt_or_gt_of_ne hij with h | h
    · exact Or.inl (hg _ (List.mem_of_getElem? (sw_ne i hi j hj h)))
    · exact Or.inr (hg _ (List.mem_of_getElem? (sw_ne j hj i hi h)))) hA
  obtain ⟨tP, p1, cP, p2, p3, p4, p5, p6, p7, p8⟩ := va_Tof (args := #[Value.ref b]) (s := s) (tm := .static "GateCounter" "PRESCALES" "[I") (ty := .int) (N := 5) (f := fun j => .int (J (pv j))) (A := fun q : Nat => s.heap.size ≤ q) (by decide) (hg _ gn_0) (va_eqt (hg _ gn_1)) (fun j hj => va_eqt (hg _ (rng_in pw_el j hj))) hA
  obtain ⟨tO, o1, cO, o2, o3, o4, o5, o6, o7, o8⟩ := va_Tof (args := #[Value.ref b]) (s := s) (tm := .static "java/lang/Integer" "DigitOnes" "[B") (ty := .byte) (N := 100) (f := fun j => .int (J ((48 + j % 10 : Nat) : Int))) (A := fun q : Nat => s.heap.size ≤ q) (by decide) (hg _ gn_2) (va_eqt (hg _ gn_3)) (fun j hj => va_eqt (hg _ (rng_in ow_el j hj))) hA
  obtain ⟨tT, t1, cT, t2, t3, t4, t5, t6, t7, t8⟩ := va_Tof (args := #[Value.ref b]) (s := s) (tm := .static "java/lang/Integer" "DigitTens" "[B") (ty := .byte) (N := 100) (f := fun j => .int (J ((48 + j / 10 : Nat) : Int))) (A := fun q : Nat => s.heap.size ≤ q) (by decide) (hg _ gn_4) (va_eqt (hg _ gn_5)) (fun j hj => va_eqt (hg _ (rng_in tw_el j hj))) hA
  obtain ⟨scr, x1, x2, x3, x4, x5⟩ := hX
  have hStr : (Cond.instantiable "java/lang/String" 4).before #[Value.ref b] s = true := (hts _ (List.mem_of_getElem? (i := 40 + 1120) (by decide +kernel)))
  obtain ⟨IsI, eI⟩ : ∃ P : Nat → Prop, P = fun a => a = b ∨ a = tP := ⟨_, rfl⟩
  obtain ⟨IsB, eB⟩ : ∃ P : Nat → Prop, P = fun a => a = tT ∨ a = tO ∨ ∃ i, i < 14 ∧ a = adV i := ⟨_, rfl⟩
  obtain ⟨IsK, eK⟩ : ∃ P : Nat → Prop, P = fun a => ∃ i, i < 14 ∧ a = adK i := ⟨_, rfl⟩
  have hlen7 : ∀ i, i < 14 → lenW.getD i 0 < 2 ^ 31 := by decide
  have hI : ∀ a, IsI a → a < s.heap.size ∧ ∃ (ce : Cell) (N : Nat), s.heap[a]? = some ce ∧ s.isArrayOf ce .int ∧ ce.vm ≠ .unknown ∧ N ≤ ce.slots.size ∧ ce.slots.size.toInt32 = Int32.ofNat N ∧ N < 2 ^ 31 ∧ ∀ j, j < N → ∃ x, ce.slots[j]? = some (.int x) := by
    intro a h
    rw [eI] at h
    rcases h with rfl | rfl
    · exact ⟨hbl, scr, L, x1, x2, x3, by omega, by rw [x4], by omega, fun j hj => ⟨_, x5 j hj⟩⟩
    · exact ⟨(Array.getElem?_eq_some_iff.mp p2).1, cP, 5, p2, p3, p4, p5, p6, by decide, fun j hj => ⟨_, p7 j hj⟩⟩
  have hB : ∀ a, IsB a → a < s.heap.size ∧ ∃ (ce : Cell) (N : Nat), s.heap[a]? = some ce ∧ s.isArrayOf ce .byte ∧ ce.vm ≠ .unknown ∧ N ≤ ce.slots.size ∧ ce.slots.size.toInt32 = Int32.ofNat N ∧ N < 2 ^ 31 ∧ ∀ j, j < N → ∃ x, ce.slots[j]? = some (.int x) := by
    intro a h
    rw [eB] at h
    rcases h with rfl | rfl | ⟨i, hi, rfl⟩
    · exact ⟨(Array.getElem?_eq_some_iff.mp t2).1, cT, 100, t2, t3, t4, t5, t6, by decide, fun j hj => ⟨_, t7 j hj⟩⟩
    · exact ⟨(Array.getElem?_eq_some_iff.mp o2).1, cO, 100, o2, o3, o4, o5, o6, by decide, fun j hj => ⟨_, o7 j hj⟩⟩
    · obtain ⟨-, -, -, ce, g2, g3, g4, g5, g6, g7, g8⟩ := hS1 i hi
      exact ⟨(Array.getElem?_eq_some_iff.mp g2).1, ce, _, g2, g3, g4, g5, g6, hlen7 i hi, fun j hj => ⟨_, g7 j hj⟩⟩
  have dBI : ∀ a, IsB a → ¬ IsI a := by
    intro a h1 h2
    obtain ⟨-, c1, N1, g1, g2, -⟩ := hB a h1
    obtain ⟨-, c2, N2, f1, f2, -⟩ := hI a h2
    exact arr_ne g1 g2 f1 f2 (by decide) rfl
  have dKI : ∀ a, IsK a → ¬ IsI a := by
    intro a h1 h2
    rw [eK] at h1
    obtain ⟨i, hi, rfl⟩ := h1
    obtain ⟨-, c2, N2, f1, f2, -⟩ := hI _ h2
    exact str_ne hStr f1 f2 (hS1 i hi).1 rfl
  have dKB : ∀ a, IsK a → ¬ IsB a := by
    intro a h1 h2
    rw [eK] at h1
    obtain ⟨i, hi, rfl⟩ := h1
    obtain ⟨-, c2, N2, f1, f2, -⟩ := hB _ h2
    exact str_ne hStr f1 f2 (hS1 i hi).1 rfl
  obtain ⟨kF, kI, kB, kK, kN⟩ : ∃ kF : Nat → Option kd, (∀ a, IsI a → kF a = some (11, lnI s.heap a)) ∧ (∀ a, IsB a → kF a = some (12, lnI s.heap a)) ∧ (∀ a, IsK a → kF a = some (20, 0)) ∧ ∀ a d, kF a = some d → (IsI a ∧ d = (11, lnI s.heap a)) ∨ (IsB a ∧ d = (12, lnI s.heap a)) ∨ (IsK a ∧ d = (20, 0)) := by
    classical
    refine ⟨fun a => if IsI a then some (11, lnI s.heap a) else if IsB a then some (12, lnI s.heap a) else if IsK a then some (20, 0) else none, fun a h => by simp only []; rw [if_pos h], fun a h => by simp only []; rw [if_neg (dBI a h), if_pos h], fun a h => by simp only []; rw [if_neg (dKI a h), if_neg (dKB a h), if_pos h], fun a d h => ?_⟩
    simp only [] at h
    by_cases q1 : IsI a
    · rw [if_pos q1] at h
      exact Or.inl ⟨q1, (Option.some.inj h).symm⟩
    · rw [if_neg q1] at h
      by_cases q2 : IsB a
      · rw [if_pos q2] at h
        exact Or.inr (Or.inl ⟨q2, (Option.some.inj h).symm⟩)
      · rw [if_neg q2] at h
        by_cases q3 : IsK a
        · rw [if_pos q3] at h
          exact Or.inr (Or.inr ⟨q3, (Option.some.inj h).symm⟩)
        · rw [if_neg q3] at h
          cases h
  obtain ⟨gF, hgF⟩ : ∃ gF : Nat → Nat → Option Nat, ∀ i, i < 14 → gF (adK i) 0 = some (adV i) := by
    classical
    refine ⟨fun a _ => if h : ∃ i, i < 14 ∧ a = adK i then some (adV h.choose) else none, fun i hi => ?_⟩
    have h : ∃ i', i' < 14 ∧ adK i = adK i' := ⟨i, hi, rfl⟩
    have e : i = h.choose := hS2 i h.choose hi h.choose_spec.1 h.choose_spec.2
    show (if h : ∃ i', i' < 14 ∧ adK i = adK i' then some (adV h.choose) else none) = some (adV i)
    rw [dif_pos h, ← e]
  obtain ⟨vF, v1, v2⟩ : ∃ vF : Nat → Nat → Int32, (∀ a j, IsK a → vF a j = 0) ∧ ∀ a j, ¬ IsK a → vF a j = rdI s.heap a j := by
    classical
    exact ⟨fun a j => if IsK a then 0 else rdI s.heap a j, fun a j h => by simp only []; rw [if_pos h], fun a j h => by simp only []; rw [if_neg h]⟩
  obtain ⟨S, eS⟩ : ∃ S : shp, S = (kF, gF, (fun j => match j with | 0 => tP | 1 => tT | 2 => tO | j + 3 => adK (j - 7)), s.heap.size, 0, 0) := ⟨_, rfl⟩
  obtain ⟨v, ev⟩ : ∃ v : vl, v = (vF, fun _ _ => 0) := ⟨_, rfl⟩
  have hkin : ∀ a, kin S a = kF a := fun a => by rw [eS]; rfl
  have hgr : ∀ a j, gr S a j = gF a j := fun a j => by rw [eS]; rfl
  have hrw : ∀ a, rw v a = vF a := fun a => by rw [ev]; rfl
  have k0 : kad S 0 = tP := by rw [eS]; rfl
  have k1 : kad S 1 = tT := by rw [eS]; rfl
  have k2 : kad S 2 = tO := by rw [eS]; rfl
  have k10 : ∀ j, j < 14 → kad S (j + 10) = adK j := fun j _ => by rw [eS]; rfl
  have hn : nxt S = s.heap.size := by rw [eS]; rfl
  have iP : IsI tP := by rw [eI]; exact Or.inr rfl
  have iT : IsB tT := by rw [eB]; exact Or.inl rfl
  have iO : IsB tO := by rw [eB]; exact Or.inr (Or.inl rfl)
  have iV : ∀ i, i < 14 → IsB (adV i) := fun i hi => by rw [eB]; exact Or.inr (Or.inr ⟨i, hi, rfl⟩)
  have iK : ∀ i, i < 14 → IsK (adK i) := fun i hi => by rw [eK]; exact ⟨i, hi, rfl⟩
  have nKI : ∀ a, IsI a → ¬ IsK a := fun a h1 h2 => dKI a h2 h1
  have nKB : ∀ a, IsB a → ¬ IsK a := fun a h1 h2 => dKB a h2 h1
  have hrel : rel (D, s.heap) S v s s.heap := by
    refine ⟨by rw [eS]; rfl, by rw [eS]; rfl, fun _ _ => rfl, fun a k hk => Or.inr ?_⟩
    rw [hkin] at hk
    have hba : bas S = s.heap.size := by rw [eS]; rfl
    have hgi : ∀ j, gi v a j = vF a j := fun j => by rw [gi_rw, hrw]
    rcases kN a k hk with ⟨q1, rfl⟩ | ⟨q1, rfl⟩ | ⟨q1, rfl⟩
    · obtain ⟨f0, ce, N, f1, f2, f3, f4, f5, f6, f7⟩ := hI a q1
      have el := lnI_of f1 f5 f6
      refine ⟨(by decide : 10 < 11), by rw [hba]; exact f0, Or.inl ⟨0, rfl, by decide, ce, f1, f2, f3, by rw [el]; exact f4, by rw [el]; exact f5, fun j hj => ?_⟩⟩
      obtain ⟨x, hx⟩ := f7 j (by rw [el] at hj; exact hj)
      rw [hgi, v2 a j (nKI a q1), rdI_of f1 hx]
      exact hx
    · obtain ⟨f0, ce, N, f1, f2, f3, f4, f5, f6, f7⟩ := hB a q1
      have el := lnI_of f1 f5 f6
      refine ⟨(by decide : 10 < 12), by rw [hba]; exact f0, Or.inl ⟨1, rfl, by decide, ce, f1, f2, f3, by rw [el]; exact f4, by rw [el]; exact f5, fun j hj => ?_⟩⟩
      obtain ⟨x, hx⟩ := f7 j (by rw [el] at hj; exact hj)
      rw [hgi, v2 a j (nKB a q1), rdI_of f1 hx]
      exact hx
    · have q2 := q1
      rw [eK] at q2
      obtain ⟨i, hi, rfl⟩ := q2
      obtain ⟨g1, g2, g3, -⟩ := hS1 i hi
      have hlt : adK i < s.heap.size := by
        obtain ⟨ce, y1, -⟩ := g1
        exact (Array.getElem?_eq_some_iff.mp y1).1
      refine ⟨(by decide : 10 < 20), by rw [hba]; exact hlt, Or.inr ⟨rfl, ?_, ?_, g1⟩⟩
      · rw [hgr, hgF i hi]
        exact g3
      · rw [hgi, v1 _ _ q1]
        exact g2
  have hlt : ∀ a d, kin S a = some d → a < s.heap.size := by
    intro a d h
    rcases hrel.2.2.2 a d h with ⟨q1, q2, q3⟩ | ⟨-, q2, -⟩
    · rw [hkin] at h
      rcases kN a d h with ⟨q1', rfl⟩ | ⟨q1', rfl⟩ | ⟨q1', rfl⟩
      · exact absurd q1 (by show ¬ 11 < 10; decide)
      · exact absurd q1 (by show ¬ 12 < 10; decide)
      · exact absurd q1 (by show ¬ 20 < 10; decide)
    · have hba : bas S = s.heap.size := by rw [eS]; rfl
      omega
  have kP5 : kin S tP = some (11, 5) := by rw [hkin, kI _ iP, lnI_of p2 p6 (by decide)]
  have kT100 : kin S tT = some (12, 100) := by rw [hkin, kB _ iT, lnI_of t2 t6 (by decide)]
  have kO100 : kin S tO = some (12, 100) := by rw [hkin, kB _ iO, lnI_of o2 o6 (by decide)]
  have wb : ∀ i, i < 7 → wdB S v (nxt S) (i + 17) (lwM i) := by
    intro i hi
    obtain ⟨-, -, -, ce, g2, g3, g4, g5, g6, g7, g8⟩ := hS1 (i + 7) (by omega)
    obtain ⟨w1, w2, w3⟩ := wb_ch i hi
    have i14 : i + 7 < 14 := by omega
    have kKi : kin S (adK (i + 7)) = some (20, 0) := by rw [hkin, kK _ (iK (i + 7) i14)]
    have kVi : kin S (adV (i + 7)) = some (12, lenW.getD (i + 7) 0) := by rw [hkin, kB _ (iV (i + 7) i14), lnI_of g2 g6 (hlen7 (i + 7) i14)]
    have kk : kad S (i + 17) = adK (i + 7) := k10 (i + 7) i14
    unfold wdB
    rw [kk, w1]
    refine ⟨kKi, by rw [hn]; exact hlt _ _ kKi, by rw [hrw, v1 _ _ (iK (i + 7) i14)]; rfl, w2, adV (i + 7), by rw [hgr]; exact hgF (i + 7) i14, by rw [hn]; exact hlt _ _ kVi, kVi, fun k hk => ?_⟩
    rw [hrw, v2 _ _ (nKB _ (iV (i + 7) i14)), rdI_of g2 (g7 k hk)]
    exact w3 k hk
  refine ⟨(D, s.heap), S, v, rfl, ?_, hrel, ?_, ⟨hn, by rw [eS]; rfl, by rw [eS]; rfl⟩, ?_, ?_, ?_, ⟨wb 0 (by decide), wb 1 (by decide), wb 2 (by decide), wb 3 (by decide), wb 4 (by decide), wb 5 (by decide), wb 6 (by decide)⟩, ?_, ?_⟩
  · refine ⟨hD, fun w hw => va_Nw.of (nbw_tab w hw) (hts w (nbw_in w hw)), fun k hk => ?_, va_Zqof (hts _ (List.mem_of_getElem? (i := 40 + 369) (by decide +kernel))) (hts _ (List.mem_of_getElem? (i := 40 + 9) (by decide +kernel))) (hg _ gn_7) hA, vx_Zqof (hts _ (List.mem_of_getElem? (i := 40 + 755) (by decide +kernel))) (hts _ (List.mem_of_getElem? (i := 40 + 18) (by decide +kernel))) (hg _ gn_8) hA, vx_Zqof (hts _ (List.mem_of_getElem? (i := 40 + 757) (by decide +kernel))) (hts _ (List.mem_of_getElem? (i := 40 + 18) (by decide +kernel))) (hg _ gn_9) hA, fun q hq => ?_, trivial, va_AO.of (hts _ (List.mem_of_getElem? (i := 40 + 273) (by decide +kernel))), va_AO.of (hts _ (List.mem_of_getElem? (i := 40 + 141) (by decide +kernel)))⟩
    · match k, hk with
      | 0, _ =>
        show va_Z "GateCounter" "PRESCALES" "[I" (.ref (kad S 0)) _ s s.heap
        rw [k0]
        exact va_Zof (hts _ (List.mem_of_getElem? (i := 40 + 428) (by decide +kernel))) (hts _ (List.mem_of_getElem? (i := 40 + 13) (by decide +kernel))) p1 hA
      | 1, _ =>
        show va_Z "java/lang/String" "COMPACT_STRINGS" "Z" (.int 1) _ s s.heap
        exact va_Zof (hts _ (List.mem_of_getElem? (i := 40 + 250) (by decide +kernel))) (hts _ (List.mem_of_getElem? (i := 40 + 3) (by decide +kernel))) (va_eqi (hg _ gn_6)) hA
      | 2, _ =>
        show va_Z "java/lang/Integer" "DigitTens" "[B" (.ref (kad S 1)) _ s s.heap
        rw [k1]
        exact va_Zof (hts _ (List.mem_of_getElem? (i := 40 + 616) (by decide +kernel))) (hts _ (List.mem_of_getElem? (i := 40 + 12) (by decide +kernel))) t1 hA
      | 3, _ =>
        show va_Z "java/lang/Integer" "DigitOnes" "[B" (.ref (kad S 2)) _ s s.heap
        rw [k2]
        exact va_Zof (hts _ (List.mem_of_getElem? (i := 40 + 614) (by decide +kernel))) (hts _ (List.mem_of_getElem? (i := 40 + 12) (by decide +kernel))) o1 hA
      | k + 4, h => exact absurd h (by omega)
    · rw [eS]
      simp only [strs, List.mem_cons, List.not_mem_nil, or_false] at hq
      rcases hq with rfl | rfl | rfl | rfl | rfl | rfl | rfl | rfl | rfl | rfl | rfl | rfl | rfl | rfl
      · exact vk_R.of (hts _ (List.mem_of_getElem? (i := 40 + 340) (by decide +kernel))) (hS3 0 (by decide))
      · exact vk_R.of (hts _ (List.mem_of_getElem? (i := 40 + 404) (by decide +kernel))) (hS3 1 (by decide))
      · exact vk_R.of (hts _ (List.mem_of_getElem? (i := 40 + 409) (by decide +kernel))) (hS3 2 (by decide))
      · exact vk_R.of (hts _ (List.mem_of_getElem? (i := 40 + 419) (by decide +kernel))) (hS3 3 (by decide))
      · exact vk_R.of (hts _ (List.mem_of_getElem? (i := 40 + 430) (by decide +kernel))) (hS3 4 (by decide))
      · exact vk_R.of (hts _ (List.mem_of_getElem? (i := 40 + 435) (by decide +kernel))) (hS3 5 (by decide))
      · exact vk_R.of (hts _ (List.mem_of_getElem? (i := 40 + 440) (by decide +kernel))) (hS3 6 (by decide))
      · exact vk_R.of (hts _ (List.mem_of_getElem? (i := 40 + 500) (by decide +kernel))) (hS3 7 (by decide))
      · exact vk_R.of (hts _ (List.mem_of_getElem? (i := 40 + 625) (by decide +kernel))) (hS3 8 (by decide))
      · exact vk_R.of (hts _ (List.mem_of_getElem? (i := 40 + 626) (by decide +kernel))) (hS3 9 (by decide))
      · exact vk_R.of (hts _ (List.mem_of_getElem? (i := 40 + 627) (by decide +kernel))) (hS3 10 (by decide))
      · exact vk_R.of (hts _ (List.mem_of_getElem? (i := 40 + 628) (by decide +kernel))) (hS3 11 (by decide))
      · exact vk_R.of (hts _ (List.mem_of_getElem? (i := 40 + 629) (by decide +kernel))) (hS3 12 (by decide))
      · exact vk_R.of (hts _ (List.mem_of_getElem? (i := 40 + 643) (by decide +kernel))) (hS3 13 (by decide))
  · intro a ha
    cases h : kin S a with
    | none => rfl
    | some d =>
      have := hlt a d h
      omega
  · rw [hkin, kI b (by rw [eI]; exact Or.inl rfl), lnI_of x1 (show scr.slots.size.toInt32 = Int32.ofNat L by rw [x4]) (by omega)]
  · refine ⟨by rw [k0]; exact kP5, Or.inl (by rw [k0, hn]; exact hlt _ _ kP5), fun i hi => ?_⟩
    rw [k0, hrw, v2 _ _ (nKI _ iP)]
    exact rdI_of p2 (p7 i hi)
  · intro j h10 h16
    obtain ⟨i, hi, rfl⟩ : ∃ i, i < 7 ∧ j = i + 10 := ⟨j - 10, by omega, by omega⟩
    have i14 : i < 14 := by omega
    obtain ⟨-, -, -, ce, g2, g3, g4, g5, g6, g7, g8⟩ := hS1 i i14
    obtain ⟨w0, w1, w2, w3⟩ := wd_ch i hi
    have kKi : kin S (adK i) = some (20, 0) := by rw [hkin, kK _ (iK i i14)]
    have kVi : kin S (adV i) = some (12, lenW.getD i 0) := by rw [hkin, kB _ (iV i i14), lnI_of g2 g6 (hlen7 i i14)]
    rw [w0]
    refine ⟨by rw [k10 i i14]; exact kKi, by rw [k10 i i14, hn]; exact hlt _ _ kKi, by rw [k10 i i14, hrw, v1 _ _ (iK i i14)]; rfl, ⟨w1, w2⟩, adV i, by rw [k10 i i14, hgr]; exact hgF i i14, by rw [hn]; exact hlt _ _ kVi, kVi, fun k hk => ?_⟩
    rw [hrw, v2 _ _ (nKB _ (iV i i14)), rdI_of g2 (g7 k hk)]
    exact w3 k hk
  · refine ⟨by rw [k1]; exact kT100, by rw [k2]; exact kO100, ⟨by rw [k1, hn]; exact hlt _ _ kT100, by rw [k2, hn]; exact hlt _ _ kO100⟩, fun q hq => ?_⟩
    rw [k1, k2, hrw, hrw, v2 _ _ (nKB _ iO), v2 _ _ (nKB _ iT), rdI_of o2 (o7 q hq), rdI_of t2 (t7 q hq)]
    exact dt_ch q hq
  · rw [k0, hn]
    exact hlt _ _ kP5
end START2