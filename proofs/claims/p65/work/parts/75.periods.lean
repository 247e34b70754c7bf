/-! Walks over outputs. -/
section PERIODS
variable {S : shp} {v : vl} {a b m N q : Nat} {h c g t p X : Nat → Int} {M : Nat → Nat → Int} {sv : Option sta} {ps : List sta} {re ca ch : Int}
def eO (t p g : Nat → Int) (i : Nat) : Bool := decide (oN t p i g ≠ -1)
theorem sgW_ne {x y : Nat} {f : Nat → Int32} (hW : sgW S v x t p g) (hy : y < x ∨ x + 3 ≤ y) : sgW S (wr v y f) x t p g :=
  ⟨hW.1, by rw [rw_wr_ne (by omega)]; exact hW.2.1, fun i hi => by rw [rw_wr_ne (by omega), rw_wr_ne (by omega)]; exact hW.2.2 i hi⟩
-- most periods
-- the model's walk over outputs
-- most periods
end PERIODS
