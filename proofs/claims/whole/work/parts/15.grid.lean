/-! the rows of TinWall.written: chunk t's arrays 100 .. 106 -/
theorem kTin_gm : ∀ i, i < 7 → (100 + i, 0, 4) ∈ kTin.2 := by decide +kernel
theorem kTin_gu : ∀ i, i < 7 → ∀ b ∈ kTin.2, b.1 = 100 + i → b = (100 + i, 0, 4) := by decide +kernel
/-- room for one more call of a group that calls itself -/
abbrev rmS (r : Room) : Room := { frames := r.frames + 20, cells := 0, slots := 0, locals := r.locals + 400 }
