/-! The law: from its start to its end. -/
section LAWSTART
variable {S S' : shp} {v v' : vl} {a b m N n k l oa p0 : Nat} {ln : Nat → Nat} {W : Nat → Nat → Int}
theorem exN_mk (h : mkG (fun _ _ => False) a k l S v S' v') (ha : a = nxt S) : exN a k l S v S' v' := by
  obtain ⟨a1, a2, a3, a4, a5, a6, a7⟩ := h
  exact ⟨fun x hx => (a1 x (by omega)).2.2, fun x _ hx => ⟨(a1 x (by omega)).2.1, fun j => a2 x j (by omega) (fun q => q)⟩, fun x hx => (a1 x (by omega)).1, a3, a4, ⟨by omega, by omega⟩, ⟨by omega, by omega⟩⟩
theorem gcL_Y (h : gY S v a 8) : gcL S a := by
  obtain ⟨⟨x1, x2, ⟨x3, x4⟩, ⟨⟨t1, t2, t3, t4⟩, t5, -⟩, ⟨⟨b1, b2, b3⟩, -⟩, x7⟩, y2, y3, y4⟩ := h
  obtain ⟨p1, p2⟩ := x7 0 (by decide)
  obtain ⟨q1, q2⟩ := x7 1 (by decide)
  obtain ⟨r1, r2⟩ := x7 2 (by decide)
  obtain ⟨s1, s2⟩ := x7 3 (by decide)
  exact ⟨⟨x1, x3, x4, p1, q1, r1, s1, y2⟩, ⟨t1, t2, t3, t4⟩, b1, y3, fun i hi => (y4 i hi).1, t5, p2.1, q2.1, r2.1, s2.1, fun i hi => (y4 i hi).2⟩
end LAWSTART
