/-! What may be set. -/
section MAYSET
variable {S : shp} {v : vl}
def rnZ (lo hi x : Int) : Int := if lo ≤ x ∧ x ≤ hi then 1 else 0
def mzZ (w x : Int) : Int := if w = 1 then rnZ (-99) 99 x else if w = 2 then rnZ (-1) 1 x else if w = 3 then 0 else if w = 4 then rnZ 1 9999 x else if w = 5 then rnZ 1 999 x else if w = 6 then rnZ (-99) 99 x else 0
theorem rn_c {lo hi x : Int} (hx : -2147483648 ≤ x ∧ x < 2147483648) (hl : -2147483648 ≤ lo ∧ lo < 2147483648) (hh : -2147483648 ≤ hi ∧ hi < 2147483648) : (if J x < J lo then some (J 0) else (if J hi < J x then some (J 0) else some (J 1))) = some (J (rnZ lo hi x)) := by
  unfold rnZ
  by_cases a : x < lo
  · rw [if_pos ((J_lt hx hl).mpr a), if_neg (by omega)]
  · rw [if_neg (fun z => a ((J_lt hx hl).mp z))]
    by_cases b : hi < x
    · rw [if_pos ((J_lt hh hx).mpr b), if_neg (by omega)]
    · rw [if_neg (fun z => b ((J_lt hh hx).mp z)), if_pos (by omega)]
theorem gc_maySet {w x : Int} (hw : -2147483648 ≤ w ∧ w < 2147483648) (hx : -2147483648 ≤ x ∧ x < 2147483648) : F_gc_maySet (J w) (J x) S v = some (J (mzZ w x)) := by
  have e : ∀ k : Int, -2147483648 ≤ k ∧ k < 2147483648 → (J w = J k ↔ w = k) := fun k hk => J_eq hw hk
  unfold F_gc_maySet mzZ
  by_cases w1 : w = 1
  · rw [if_pos ((e 1 (by decide)).mpr w1), if_pos w1, rn_c hx (by decide) (by decide)]
  rw [if_neg (fun z => w1 ((e 1 (by decide)).mp z)), if_neg w1]
  by_cases w2 : w = 2
  · rw [if_pos ((e 2 (by decide)).mpr w2), if_pos w2, rn_c hx (by decide) (by decide)]
  rw [if_neg (fun z => w2 ((e 2 (by decide)).mp z)), if_neg w2]
  by_cases w3 : w = 3
  · rw [if_pos ((e 3 (by decide)).mpr w3), if_pos w3]
  rw [if_neg (fun z => w3 ((e 3 (by decide)).mp z)), if_neg w3]
  by_cases w4 : w = 4
  · rw [if_pos ((e 4 (by decide)).mpr w4), if_pos w4, rn_c hx (by decide) (by decide)]
  rw [if_neg (fun z => w4 ((e 4 (by decide)).mp z)), if_neg w4]
  by_cases w5 : w = 5
  · rw [if_pos ((e 5 (by decide)).mpr w5), if_pos w5, rn_c hx (by decide) (by decide)]
  rw [if_neg (fun z => w5 ((e 5 (by decide)).mp z)), if_neg w5]
  by_cases w6 : w = 6
  · rw [if_pos ((e 6 (by decide)).mpr w6), if_pos w6, rn_c hx (by decide) (by decide)]
  rw [if_neg (fun z => w6 ((e 6 (by decide)).mp z)), if_neg w6]
end MAYSET
