/-! The law: the world at its start. -/
section START
variable {s : State} {args : Array Value}
theorem nbw_in : ∀ w ∈ nbw, w ∈ lw_tbl := List.forall_mem_cons.mpr ⟨(List.mem_of_getElem? (i := 40 + 539) (by decide +kernel)), List.forall_mem_cons.mpr ⟨(List.mem_of_getElem? (i := 40 + 730) (by decide +kernel)), List.forall_mem_cons.mpr ⟨(List.mem_of_getElem? (i := 40 + 1009) (by decide +kernel)), List.forall_mem_cons.mpr ⟨(List.mem_of_getElem? (i := 40 + 1087) (by decide +kernel)), List.forall_mem_cons.mpr ⟨(List.mem_of_getElem? (i := 40 + 47) (by decide +kernel)), List.forall_mem_cons.mpr ⟨(List.mem_of_getElem? (i := 40 + 424) (by decide +kernel)), List.forall_mem_cons.mpr ⟨(List.mem_of_getElem? (i := 40 + 872) (by decide +kernel)), List.forall_mem_cons.mpr ⟨(List.mem_of_getElem? (i := 40 + 981) (by decide +kernel)), List.forall_mem_cons.mpr ⟨(List.mem_of_getElem? (i := 40 + 731) (by decide +kernel)), List.forall_mem_cons.mpr ⟨(List.mem_of_getElem? (i := 40 + 733) (by decide +kernel)), List.forall_mem_cons.mpr ⟨(List.mem_of_getElem? (i := 40 + 735) (by decide +kernel)), fun _ h => absurd h List.not_mem_nil⟩⟩⟩⟩⟩⟩⟩⟩⟩⟩⟩
theorem nbw_tab : ∀ w ∈ nbw, w.onTables = true := by decide +kernel
theorem kn_all (hts : ∀ w ∈ lw_tbl, w.before args s = true) : ∃ D : va_G, va_K D clt [] s := by
  obtain ⟨c0, i0, h0⟩ := u_known (ws := tb2) (s := s) (args := args) (C := RX0) (T := TX0) (N := 7) (n := 7) (tb2_ok hts) (fun w h => (uws_in (ci := 0) (by decide) w h).1) (hts _ (List.mem_of_getElem? (i := 40 + 46) (by decide +kernel)))
  obtain ⟨c1, i1, h1⟩ := u_known (ws := tb2) (s := s) (args := args) (C := RX1) (T := TX1) (N := 7) (n := 7) (tb2_ok hts) (fun w h => (uws_in (ci := 1) (by decide) w h).1) (hts _ (List.mem_of_getElem? (i := 40 + 920) (by decide +kernel)))
  obtain ⟨c2, i2, h2⟩ := u_known (ws := tb2) (s := s) (args := args) (C := RX2) (T := TX2) (N := 13) (n := 13) (tb2_ok hts) (fun w h => (uws_in (ci := 2) (by decide) w h).1) (hts _ (List.mem_of_getElem? (i := 40 + 34) (by decide +kernel)))
  obtain ⟨c3, i3, h3⟩ := u_known (ws := tb2) (s := s) (args := args) (C := RX3) (T := TX3) (N := 12) (n := 12) (tb2_ok hts) (fun w h => (uws_in (ci := 3) (by decide) w h).1) (hts _ (List.mem_of_getElem? (i := 40 + 86) (by decide +kernel)))
  obtain ⟨c4, i4, h4⟩ := u_known (ws := tb2) (s := s) (args := args) (C := RX4) (T := TX4) (N := 9) (n := 9) (tb2_ok hts) (fun w h => (uws_in (ci := 4) (by decide) w h).1) (hts _ (List.mem_of_getElem? (i := 40 + 40) (by decide +kernel)))
  obtain ⟨c5, i5, h5⟩ := u_known (ws := tb2) (s := s) (args := args) (C := RX5) (T := TX5) (N := 13) (n := 13) (tb2_ok hts) (fun w h => (uws_in (ci := 5) (by decide) w h).1) (hts _ (List.mem_of_getElem? (i := 40 + 26) (by decide +kernel)))
  obtain ⟨c6, i6, h6⟩ := u_known (ws := tb2) (s := s) (args := args) (C := RL) (T := TL) (N := 25) (n := 25) (tb2_ok hts) (fun w h => (uws_in (ci := 6) (by decide) w h).1) (hts _ (List.mem_of_getElem? (i := 40 + 490) (by decide +kernel)))
  obtain ⟨c7, i7, h7⟩ := u_known (ws := tb2) (s := s) (args := args) (C := RJ4) (T := TJ4) (N := 4) (n := 4) (tb2_ok hts) (fun w h => (uws_in (ci := 7) (by decide) w h).1) (hts _ (List.mem_of_getElem? (i := 40 + 241) (by decide +kernel)))
  obtain ⟨c8, i8, h8⟩ := u_known (ws := tb2) (s := s) (args := args) (C := RJ0) (T := TJ0) (N := 4) (n := 4) (tb2_ok hts) (fun w h => (uws_in (ci := 8) (by decide) w h).1) (hts _ (List.mem_of_getElem? (i := 40 + 1120) (by decide +kernel)))
  refine ⟨(fun k => match k with | 0 => c0 | 1 => c1 | 2 => c2 | 3 => c3 | 4 => c4 | 5 => c5 | 6 => c6 | 7 => c7 | _ => c8, fun k => match k with | 0 => i0 | 1 => i1 | 2 => i2 | 3 => i3 | 4 => i4 | 5 => i5 | 6 => i6 | 7 => i7 | _ => i8), fun k q hq => ?_, fun k q hq => by cases hq⟩
  match k, hq with
  | 0, hq => cases hq; exact h0
  | 1, hq => cases hq; exact h1
  | 2, hq => cases hq; exact h2
  | 3, hq => cases hq; exact h3
  | 4, hq => cases hq; exact h4
  | 5, hq => cases hq; exact h5
  | 6, hq => cases hq; exact h6
  | 7, hq => cases hq; exact h7
  | 8, hq => cases hq; exact h8
  | k + 9, hq => simp [clt] at hq
/-- what the statement gives of the start -/
def gvn : Cond := Jvm.Cond.and given_1 narrow_1
def tmS (i : Nat) : Term := match i with
  | 0 => .string "GateCounter$SetupText" 51
  | 1 => .string "GateCounter$SetupText" 78
  | 2 => .string "GateCounter$SetupText" 83
  | 3 => .string "GateCounter$SetupText" 97
  | 4 => .string "GateCounter$SetupText" 102
  | 5 => .string "GateCounter$SetupText" 107
  | 6 => .string "GateCounter$SetupText" 112
  | 7 => .string "GateCounterLaw" 73
  | 8 => .string "GateCounterLaw" 82
  | 9 => .string "GateCounterLaw" 84
  | 10 => .string "GateCounterLaw" 86
  | 11 => .string "GateCounterLaw" 88
  | 12 => .string "GateCounterLaw" 90
  | _ => .string "GateCounterLaw" 95
def lenW : List Nat := [5, 5, 3, 8, 4, 7, 6, 6, 7, 5, 10, 6, 9, 7]
def bytW : List (List Int32) := [[99, 108, 111, 99, 107], [100, 114, 105, 102, 116], [97, 103, 101], [112, 114, 101, 115, 99, 97, 108, 101], [103, 97, 116, 101], [112, 101, 114, 105, 111, 100, 115], [115, 105, 103, 110, 97, 108], [99, 108, 111, 99, 107, 32], [32, 100, 114, 105, 102, 116, 32], [32, 97, 103, 101, 32], [59, 112, 114, 101, 115, 99, 97, 108, 101, 32], [59, 103, 97, 116, 101, 32], [59, 112, 101, 114, 105, 111, 100, 115, 32], [115, 105, 103, 110, 97, 108, 32]]
def flatA : Cond → List Cond → List Cond
  | .and a b, acc => flatA a (flatA b acc)
  | c, acc => c :: acc
theorem flatA_ok (T : Cond) : ∀ acc : List Cond, T.before args s = true → (∀ c ∈ acc, c.before args s = true) → ∀ c ∈ flatA T acc, c.before args s = true := by
  induction T with
  | and a b iha ihb =>
    intro acc h ha
    rw [Cond.before_and, Bool.and_eq_true] at h
    exact iha _ h.1 (ihb _ h.2 ha)
  | _ =>
    intro acc h ha
    simp only [flatA]
    exact List.forall_mem_cons.mpr ⟨h, ha⟩
def gL : List Cond := flatA gvn []
theorem gL_ok (h : gvn.before args s = true) : ∀ c ∈ gL, c.before args s = true := flatA_ok gvn [] h (fun c hc => by cases hc)
theorem rng_in {L : List Cond} {i0 n : Nat} {f : Nat → Cond} (h : (L.drop i0).take n = (List.range n).map f) : ∀ j, j < n → f j ∈ L := fun j hj => List.mem_of_mem_drop (List.mem_of_mem_take (by rw [h]; exact List.mem_map.mpr ⟨j, List.mem_range.mpr hj, rfl⟩))
theorem sw_ex : ∀ i : Nat, i < 14 → gL[([249, 258, 268, 277, 292, 304, 320, 336, 353, 372, 390, 414, 435, 460] : List Nat).getD i 0]? = some (Cond.exactly (tmS i) "java/lang/String") := by decide +kernel
theorem sw_co : ∀ i : Nat, i < 14 → gL[([250, 259, 269, 278, 293, 305, 321, 337, 354, 373, 391, 415, 436, 461] : List Nat).getD i 0]? = some (Cond.eq (.field (tmS i) "java/lang/String" "coder" "B") (.int 0)) := by decide +kernel
theorem sw_ar : ∀ i : Nat, i < 14 → gL[([251, 260, 270, 279, 294, 306, 322, 338, 355, 374, 392, 416, 437, 462] : List Nat).getD i 0]? = some (Cond.arrayOf (.field (tmS i) "java/lang/String" "value" "[B") .byte) := by decide +kernel
theorem sw_le : ∀ i : Nat, i < 14 → gL[([252, 261, 271, 280, 295, 307, 323, 339, 356, 375, 393, 417, 438, 463] : List Nat).getD i 0]? = some (Cond.eq (.length (.field (tmS i) "java/lang/String" "value" "[B")) (.int (Int32.ofNat (lenW.getD i 0)))) := by decide +kernel
theorem sw_el : ∀ i : Nat, i < 14 → (gL.drop (([253, 262, 272, 281, 296, 308, 324, 340, 357, 376, 394, 418, 439, 464] : List Nat).getD i 0)).take (lenW.getD i 0) = (List.range (lenW.getD i 0)).map (fun j => Cond.eq (.elem (.field (tmS i) "java/lang/String" "value" "[B") (.int (Int32.ofNat j))) (.int ((bytW.getD i []).getD j 0))) := by decide +kernel
theorem sw_ne : ∀ i : Nat, i < 14 → ∀ j : Nat, j < 14 → i < j → gL[((([[0, 267, 275, 289, 300, 315, 330, 346, 364, 381, 404, 424, 448, 471], [0, 0, 276, 290, 301, 316, 331, 347, 365, 382, 405, 425, 449, 472], [0, 0, 0, 291, 302, 317, 332, 348, 366, 383, 406, 426, 450, 473], [0, 0, 0, 0, 303, 318, 333, 349, 367, 384, 407, 427, 451, 474], [0, 0, 0, 0, 0, 319, 334, 350, 368, 385, 408, 428, 452, 475], [0, 0, 0, 0, 0, 0, 335, 351, 369, 386, 409, 429, 453, 476], [0, 0, 0, 0, 0, 0, 0, 352, 370, 387, 410, 430, 454, 477], [0, 0, 0, 0, 0, 0, 0, 0, 371, 388, 411, 431, 455, 478], [0, 0, 0, 0, 0, 0, 0, 0, 0, 389, 412, 432, 456, 479], [0, 0, 0, 0, 0, 0, 0, 0, 0, 0, 413, 433, 457, 480], [0, 0, 0, 0, 0, 0, 0, 0, 0, 0, 0, 434, 458, 481], [0, 0, 0, 0, 0, 0, 0, 0, 0, 0, 0, 0, 459, 482], [0, 0, 0, 0, 0, 0, 0, 0, 0, 0, 0, 0, 0, 483], [0, 0, 0, 0, 0, 0, 0, 0, 0, 0, 0, 0, 0, 0]]) : List (List Nat)).getD i []).getD j 0]? = some (Cond.not (Cond.eq (tmS i) (tmS j))) := by decide +kernel
theorem pw_el : (gL.drop 12).take 5 = (List.range 5).map (fun j => Cond.eq (.elem (.static "GateCounter" "PRESCALES" "[I") (.int (Int32.ofNat j))) (.int (J (pv j)))) := by decide +kernel
theorem ow_el : (gL.drop 20).take 100 = (List.range 100).map (fun j => Cond.eq (.elem (.static "java/lang/Integer" "DigitOnes" "[B") (.int (Int32.ofNat j))) (.int (J ((48 + j % 10 : Nat) : Int)))) := by decide +kernel
theorem tw_el : (gL.drop 123).take 100 = (List.range 100).map (fun j => Cond.eq (.elem (.static "java/lang/Integer" "DigitTens" "[B") (.int (Int32.ofNat j))) (.int (J ((48 + j / 10 : Nat) : Int)))) := by decide +kernel
theorem gn_0 : Cond.arrayOf (.static "GateCounter" "PRESCALES" "[I") .int ∈ gL := List.mem_of_getElem? (i := 10) (by decide +kernel)
theorem gn_1 : Cond.eq (.length (.static "GateCounter" "PRESCALES" "[I")) (.int 5) ∈ gL := List.mem_of_getElem? (i := 11) (by decide +kernel)
theorem gn_2 : Cond.arrayOf (.static "java/lang/Integer" "DigitOnes" "[B") .byte ∈ gL := List.mem_of_getElem? (i := 18) (by decide +kernel)
theorem gn_3 : Cond.eq (.length (.static "java/lang/Integer" "DigitOnes" "[B")) (.int 100) ∈ gL := List.mem_of_getElem? (i := 19) (by decide +kernel)
theorem gn_4 : Cond.arrayOf (.static "java/lang/Integer" "DigitTens" "[B") .byte ∈ gL := List.mem_of_getElem? (i := 121) (by decide +kernel)
theorem gn_5 : Cond.eq (.length (.static "java/lang/Integer" "DigitTens" "[B")) (.int 100) ∈ gL := List.mem_of_getElem? (i := 122) (by decide +kernel)
theorem gn_6 : Cond.eq (.static "java/lang/String" "COMPACT_STRINGS" "Z") (.int 1) ∈ gL := List.mem_of_getElem? (i := 4) (by decide +kernel)
theorem gn_7 : Cond.isRef (.static "jdk/internal/util/Preconditions" "SIOOBE_FORMATTER" "Ljava/util/function/BiFunction;") ∈ gL := List.mem_of_getElem? (i := 5) (by decide +kernel)
theorem gn_8 : Cond.isRef (.static Bundle.tN "UNASSIGNED_STACK" Bundle.steD) ∈ gL := List.mem_of_getElem? (i := 223) (by decide +kernel)
theorem gn_9 : Cond.isRef (.static Bundle.tN "SUPPRESSED_SENTINEL" Bundle.listD) ∈ gL := List.mem_of_getElem? (i := 224) (by decide +kernel)
/-- the law's words, by number -/
def lwM (i : Nat) : List Int := if i = 0 then sC else if i = 1 then sD else if i = 2 then sA else if i = 3 then sP else if i = 4 then sG else if i = 5 then sQ else sS
theorem wd_ch : ∀ i : Nat, i < 7 → lnW (i + 10) = lenW.getD i 0 ∧ lenW.getD i 0 ≤ 100 ∧ nI (lenW.getD i 0) >>> (J 0 &&& 31) = J ((lenW.getD i 0 : Nat) : Int) ∧ ∀ k : Nat, k < lenW.getD i 0 → (0 ≤ WW (i + 10) k ∧ WW (i + 10) k ≤ 255) ∧ chC ((bytW.getD i []).getD k 0) = J (WW (i + 10) k) ∧ narrow .char (.int (J (WW (i + 10) k))) = .int (J (WW (i + 10) k)) := by decide +kernel
theorem wb_ch : ∀ i : Nat, i < 7 → (lwM i).length = lenW.getD (i + 7) 0 ∧ lenW.getD (i + 7) 0 ≤ 20 ∧ ∀ k : Nat, k < lenW.getD (i + 7) 0 → (bytW.getD (i + 7) []).getD k 0 = J (asL (lwM i) k) ∧ 0 ≤ asL (lwM i) k ∧ asL (lwM i) k < 128 := by decide +kernel
theorem dt_ch : ∀ q : Nat, q < 100 → Int8.toInt32 (Int32.toInt8 (J ((48 + q % 10 : Nat) : Int))) &&& J 255 = J ((48 + q % 10 : Nat) : Int) ∧ Int8.toInt32 (Int32.toInt8 (J ((48 + q / 10 : Nat) : Int))) &&& J 255 = J ((48 + q / 10 : Nat) : Int) := by decide +kernel
/-- what a heap holds at an array's place -/
def rdI (H : Heap) (a j : Nat) : Int32 := match H[a]? with
  | some ce => match ce.slots[j]? with
    | some (.int x) => x
    | _ => 0
  | none => 0
def lnI (H : Heap) (a : Nat) : Nat := match H[a]? with
  | some ce => ce.slots.size.toInt32.toNatClampNeg
  | none => 0
theorem rdI_of {H : Heap} {a j : Nat} {cell : Cell} {x : Int32} (h1 : H[a]? = some cell) (h2 : cell.slots[j]? = some (.int x)) : rdI H a j = x := by
  unfold rdI
  rw [h1]
  show (match cell.slots[j]? with | some (.int x) => x | _ => 0) = x
  rw [h2]
theorem lnI_of {H : Heap} {a N : Nat} {cell : Cell} (h1 : H[a]? = some cell) (h2 : cell.slots.size.toInt32 = Int32.ofNat N) (hN : N < 2 ^ 31) : lnI H a = N := by
  unfold lnI
  rw [h1]
  show cell.slots.size.toInt32.toNatClampNeg = N
  rw [h2]
  exact Int32.toNatClampNeg_ofNat_of_lt hN
theorem arr_ne {U : State} {c1 c2 : Cell} {a b : Nat} {t1 t2 : FieldType} (h1 : U.heap[a]? = some c1) (g1 : U.isArrayOf c1 t1) (h2 : U.heap[b]? = some c2) (g2 : U.isArrayOf c2 t2) (ht : t1 ≠ t2) : a ≠ b := by
  intro e
  subst e
  cases h1.symm.trans h2
  obtain ⟨-, k, hk, x, e1⟩ := g1
  obtain ⟨-, k', hk', x', e2⟩ := g2
  cases hk.symm.trans hk'
  rw [e1] at e2
  cases e2
  exact ht rfl
theorem str_ne {U : State} {c1 : Cell} {a b n : Nat} {t1 : FieldType} {A : Nat → Prop} (hi : (Cond.instantiable "java/lang/String" n).before args U = true) (h1 : U.heap[a]? = some c1) (g1 : U.isArrayOf c1 t1) (h2 : va_O "java/lang/String" b A U U.heap) : a ≠ b := by
  intro e
  subst e
  obtain ⟨-, k, hk, x, e1⟩ := g1
  obtain ⟨c2, q1, -, q3, -⟩ := h2
  cases h1.symm.trans q1
  obtain ⟨c, k', r1, r2, r3, -⟩ := Cond.instantiable_spec hi
  cases r1.symm.trans q3
  cases hk.symm.trans r2
  rw [e1] at r3
  cases r3
end START