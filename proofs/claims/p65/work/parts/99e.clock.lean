/-! The text that is read: numbers with signs, the clock. -/
section CLOCKS
variable {S : shp} {v w : vl} {a m N n : Nat} {B : Nat → Int} {z : Nat → Int} {R0 R Q : Nat → Int32} {ln : Nat → Nat} {W : Nat → Nat → Int} {h c g t p : Nat → Int} {M : Nat → Nat → Int}
-- the draft
def dV (s : sta) : Prop := sV s ∧ s.1 0 = 0 ∧ s.1 5 = 0 ∧ (s.2.2.1 6 = s.2.2.1 2 ∧ s.2.2.1 7 = s.2.2.1 3 ∧ s.2.2.1 5 = 0) ∧ lsZ s.2.2.1 s.2.2.2.1 ≤ 999999
def stD (S : shp) (v : vl) (b : Nat) (s : sta) : Prop := stM S v b s.1 s.2.1 s.2.2.1 s.2.2.2.1 s.2.2.2.2.1
/-- the class's draft moves, its reader stays -/
theorem CS_d {x : Nat} {f : Nat → Int32} (h : CS S v a n B ln W z) (hx : a + 3 ≤ x) : CS S (wr v x f) a n B ln W z := by
  obtain ⟨⟨c1, c2, c3⟩, hw, hR⟩ := h
  refine ⟨⟨c1, c2, fun i hi => by rw [rw_wr_ne (by omega)]; exact c3 i hi⟩, wdS_eq hw (fun b hb => rw_wr_ne (by omega)), by rw [rw_wr_ne (by omega)]; exact hR⟩
-- the clock
def CZ (p1 p2 p3 : Int) : Nat → Int := fun k => if k = 0 then p1 else if k = 1 then p2 else if k = 2 then p3 else if k = 4 then p1 else 0
theorem CZ_V {p1 p2 p3 : Int} (h1 : 10 ≤ p1 ∧ p1 ≤ 999) (h2 : -99 ≤ p2 ∧ p2 ≤ 99) (h3 : -1 ≤ p3 ∧ p3 ≤ 1) : ckV (CZ p1 p2 p3) := by
  have e0 : CZ p1 p2 p3 0 = p1 := rfl
  have e1 : CZ p1 p2 p3 1 = p2 := rfl
  have e2 : CZ p1 p2 p3 2 = p3 := rfl
  have e3 : CZ p1 p2 p3 3 = 0 := rfl
  have e4 : CZ p1 p2 p3 4 = p1 := rfl
  have e5 : CZ p1 p2 p3 5 = 0 := rfl
  have e6 : CZ p1 p2 p3 6 = 0 := rfl
  unfold ckV ckI
  rw [e0, e1, e2, e3, e4, e5, e6]
  omega
theorem ck_startS {b : Nat} {p1 p2 p3 : Int} (hk : kin S b = some (0, 0)) : ∃ f, F_ck_start b (J p1) (J p2) (J p3) S v = some (wr v b f) ∧ ag 7 f (CZ p1 p2 p3) := by
  refine ⟨up (up (up (up (up (up (up (rw v b) 0 (J p1)) 1 (J p2)) 2 (J p3)) 3 (J 0)) 4 (J p1)) 5 (J 0)) 6 (J 0), ?_, fun k hk7 => ?_⟩
  · unfold F_ck_start
    rw [grd_true _ hk]
    simp only [lt_def, si_wr, rw_wr, wr_wr]
  · match k, hk7 with
    | 0, _ => rfl
    | 1, _ => rfl
    | 2, _ => rfl
    | 3, _ => rfl
    | 4, _ => rfl
    | 5, _ => rfl
    | 6, _ => rfl
    | k + 7, h => exact absurd h (by omega)
def h00 : Nat → Int := fun k => if k = 1 then 10 else if k = 2 then 1 else 0
def g00 : Nat → Int := fun k => if k = 1 then -1 else if k = 4 then 1 else 0
def s00 (p1 p2 p3 : Int) : sta := (h00, CZ p1 p2 p3, g00, fun _ => 0, fun _ => 0, fun _ _ => 0)
theorem s00_V {p1 p2 p3 : Int} (h1 : 10 ≤ p1 ∧ p1 ≤ 999) (h2 : -99 ≤ p2 ∧ p2 ≤ 99) (h3 : -1 ≤ p3 ∧ p3 ≤ 1) : dV (s00 p1 p2 p3) := by
  have J0 : sgJ 0 (fun _ => 0) (fun _ => 0) g00 := by
    refine ⟨⟨by decide, fun _ => rfl, fun y => absurd y (by decide), by decide, by decide, by decide⟩, by decide, fun i hi => ?_, fun i h1 h2 => ?_⟩
    · have hi' : (i : Int) < 0 := hi
      omega
    · have hi' : (i : Int) < 0 := h2
      omega
  have hh : hV h00 := by unfold hV; decide
  have g6 : 0 ≤ g00 6 ∧ g00 6 ≤ g00 2 := by decide
  have g7 : 0 ≤ g00 7 ∧ g00 7 ≤ g00 3 := by decide
  have h0 : (0 : Int) ≤ h00 0 := by decide
  refine ⟨⟨hh, CZ_V h1 h2 h3, ⟨⟨0, J0, by decide, by decide⟩, g6, g7⟩, ⟨0, J0, by decide, h0⟩, ?_, fun i hi => ?_⟩, rfl, rfl, ⟨rfl, rfl, rfl⟩, ?_⟩
  · show (0 : Int) < p1
    omega
  · have hi' : (i : Int) < 0 := hi
    omega
  · show lsZ g00 (fun _ => 0) ≤ 999999
    unfold lsZ
    rw [if_neg (by decide)]
    decide
end CLOCKS
