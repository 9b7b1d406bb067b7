/-! the rows of TinWall.written: chunk t's arrays 100 .. 106 -/
theorem kTin_gm : ∀ i, i < 7 → (100 + i, 0, 4) ∈ kTin.2 := by decide +kernel
theorem kTin_gu : ∀ i, i < 7 → ∀ b ∈ kTin.2, b.1 = 100 + i → b = (100 + i, 0, 4) := by decide +kernel
/-- room for one more call of a group that calls itself -/
abbrev rmS (r : Room) : Room := { frames := r.frames + 20, cells := 0, slots := 0, locals := r.locals + 400 }
theorem kn_up_qq {ad : Nat → Nat} {k a b : Nat} (hk : k < 900) : kn_q (kn_up ad k a) b = kn_q ad b := by
  funext i
  unfold kn_q
  have e2 : kn_up ad k a (1000 + 200 * i + b) = ad (1000 + 200 * i + b) := if_neg (by omega)
  rw [e2]
