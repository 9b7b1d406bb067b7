/-! 66: copies and beginnings; the rule in force; days on trial -/
theorem cpy_at (f g : Nat → Int32) {n k : Nat} (h : k < n) : va_cpy f g 0 0 n k = f k := by
  unfold va_cpy
  rw [if_pos ⟨Nat.zero_le k, by omega⟩, Nat.zero_add, Nat.sub_zero]
theorem cp_copy {z s : OV} {post : OV → Prop} (hp : ∀ z', SEq s z' → post z') : PX6_copy z s post := by
  unfold PX6_copy
  rintro _ rfl _ rfl _ rfl _ rfl _ rfl _ rfl _ rfl _ rfl _ rfl _ rfl _ rfl _ rfl
  exact hp _ ⟨⟨rfl, rfl, rfl⟩, fun t ht => cpy_at _ _ ht, fun t ht => cpy_at _ _ ht, fun t ht => ⟨cpy_at _ _ ht, cpy_at _ _ ht, cpy_at _ _ ht, cpy_at _ _ ht⟩⟩
def begS (h : OV) : OV := (fun k => match k with
  | 1 => h.1 1
  | 2 => h.1 8
  | _ => 0, fun k => match k with
  | 4 => h.2.1 10
  | 5 => h.2.1 14
  | 6 => fun _ => -1
  | _ => fun _ => 0, fun _ _ => 0)
theorem Sok_beg {h : OV} {S Q : Nat} (hv : Hv h S Q) : Sok (begS h) S Q 0 0 := ⟨rfl, hv.2.2.2.2.2.1, hv.2.2.1, fun t _ => ⟨0, by omega, rfl⟩, fun q _ => ⟨⟨0, by omega, rfl⟩, Or.inl rfl⟩, fun _ _ _ => ⟨rfl, rfl⟩⟩
theorem cp_begin {z h : OV} {post : OV → Prop} (hp : ∀ z', SEq (begS h) z' → post z') : PX6_begin z h post := by
  unfold PX6_begin
  rintro _ rfl _ rfl _ rfl _ rfl _ rfl _ rfl _ rfl
  have hA : ∀ k, k < 6 → (sa (sa (si (si (si z 0 0) 1 (h.1 1)) 2 (h.1 8)) 4 (va_cpy (h.2.1 10) ((si (si (si z 0 0) 1 (h.1 1)) 2 (h.1 8)).2.1 4) ((0 : Int32)).toNatClampNeg ((0 : Int32)).toNatClampNeg ((6 : Int32)).toNatClampNeg)) 5 (va_cpy (h.2.1 14) ((sa (si (si (si z 0 0) 1 (h.1 1)) 2 (h.1 8)) 4 (va_cpy (h.2.1 10) ((si (si (si z 0 0) 1 (h.1 1)) 2 (h.1 8)).2.1 4) ((0 : Int32)).toNatClampNeg ((0 : Int32)).toNatClampNeg ((6 : Int32)).toNatClampNeg)).2.1 5) ((0 : Int32)).toNatClampNeg ((0 : Int32)).toNatClampNeg ((4 : Int32)).toNatClampNeg)).2.1 4 k = h.2.1 10 k := fun k hk => cpy_at _ _ hk
  have hB : ∀ k, k < 4 → (sa (sa (si (si (si z 0 0) 1 (h.1 1)) 2 (h.1 8)) 4 (va_cpy (h.2.1 10) ((si (si (si z 0 0) 1 (h.1 1)) 2 (h.1 8)).2.1 4) ((0 : Int32)).toNatClampNeg ((0 : Int32)).toNatClampNeg ((6 : Int32)).toNatClampNeg)) 5 (va_cpy (h.2.1 14) ((sa (si (si (si z 0 0) 1 (h.1 1)) 2 (h.1 8)) 4 (va_cpy (h.2.1 10) ((si (si (si z 0 0) 1 (h.1 1)) 2 (h.1 8)).2.1 4) ((0 : Int32)).toNatClampNeg ((0 : Int32)).toNatClampNeg ((6 : Int32)).toNatClampNeg)).2.1 5) ((0 : Int32)).toNatClampNeg ((0 : Int32)).toNatClampNeg ((4 : Int32)).toNatClampNeg)).2.1 5 k = h.2.1 14 k := fun k hk => cpy_at _ _ hk
  have h0 : (sa (sa (si (si (si z 0 0) 1 (h.1 1)) 2 (h.1 8)) 4 (va_cpy (h.2.1 10) ((si (si (si z 0 0) 1 (h.1 1)) 2 (h.1 8)).2.1 4) ((0 : Int32)).toNatClampNeg ((0 : Int32)).toNatClampNeg ((6 : Int32)).toNatClampNeg)) 5 (va_cpy (h.2.1 14) ((sa (si (si (si z 0 0) 1 (h.1 1)) 2 (h.1 8)) 4 (va_cpy (h.2.1 10) ((si (si (si z 0 0) 1 (h.1 1)) 2 (h.1 8)).2.1 4) ((0 : Int32)).toNatClampNeg ((0 : Int32)).toNatClampNeg ((6 : Int32)).toNatClampNeg)).2.1 5) ((0 : Int32)).toNatClampNeg ((0 : Int32)).toNatClampNeg ((4 : Int32)).toNatClampNeg)).1 0 = 0 ∧ (sa (sa (si (si (si z 0 0) 1 (h.1 1)) 2 (h.1 8)) 4 (va_cpy (h.2.1 10) ((si (si (si z 0 0) 1 (h.1 1)) 2 (h.1 8)).2.1 4) ((0 : Int32)).toNatClampNeg ((0 : Int32)).toNatClampNeg ((6 : Int32)).toNatClampNeg)) 5 (va_cpy (h.2.1 14) ((sa (si (si (si z 0 0) 1 (h.1 1)) 2 (h.1 8)) 4 (va_cpy (h.2.1 10) ((si (si (si z 0 0) 1 (h.1 1)) 2 (h.1 8)).2.1 4) ((0 : Int32)).toNatClampNeg ((0 : Int32)).toNatClampNeg ((6 : Int32)).toNatClampNeg)).2.1 5) ((0 : Int32)).toNatClampNeg ((0 : Int32)).toNatClampNeg ((4 : Int32)).toNatClampNeg)).1 1 = h.1 1 ∧ (sa (sa (si (si (si z 0 0) 1 (h.1 1)) 2 (h.1 8)) 4 (va_cpy (h.2.1 10) ((si (si (si z 0 0) 1 (h.1 1)) 2 (h.1 8)).2.1 4) ((0 : Int32)).toNatClampNeg ((0 : Int32)).toNatClampNeg ((6 : Int32)).toNatClampNeg)) 5 (va_cpy (h.2.1 14) ((sa (si (si (si z 0 0) 1 (h.1 1)) 2 (h.1 8)) 4 (va_cpy (h.2.1 10) ((si (si (si z 0 0) 1 (h.1 1)) 2 (h.1 8)).2.1 4) ((0 : Int32)).toNatClampNeg ((0 : Int32)).toNatClampNeg ((6 : Int32)).toNatClampNeg)).2.1 5) ((0 : Int32)).toNatClampNeg ((0 : Int32)).toNatClampNeg ((4 : Int32)).toNatClampNeg)).1 2 = h.1 8 := ⟨rfl, rfl, rfl⟩
  revert hA hB h0
  generalize sa (sa (si (si (si z 0 0) 1 (h.1 1)) 2 (h.1 8)) 4 _) 5 _ = y
  intro hA hB h0
  refine fr_rel (fun n i y => PX6_begin_L52 h post n (nI i) y) (fun i y => (y.1 0 = 0 ∧ y.1 1 = h.1 1 ∧ y.1 2 = h.1 8) ∧ (∀ k, k < 6 → y.2.1 4 k = h.2.1 10 k) ∧ (∀ k, k < 4 → y.2.1 5 k = h.2.1 14 k) ∧ ∀ t, t < i → y.2.1 3 t = 0) 10 y ⟨h0, hA, hB, fun t ht => absurd ht (Nat.not_lt_zero t)⟩ ?_ ?_
  · rintro n y ⟨a, b, c, e⟩
    unfold PX6_begin_L52
    refine br_t (Int32.le_refl _) ?_
    refine fr_rel (fun n i y => PX6_begin_L73 h post n (nI i) y) (fun i y => (y.1 0 = 0 ∧ y.1 1 = h.1 1 ∧ y.1 2 = h.1 8) ∧ (∀ k, k < 6 → y.2.1 4 k = h.2.1 10 k) ∧ (∀ k, k < 4 → y.2.1 5 k = h.2.1 14 k) ∧ (∀ t, t < 10 → y.2.1 3 t = 0) ∧ ∀ q, q < i → y.2.1 6 q = -1 ∧ y.2.1 7 q = 0 ∧ y.2.1 8 q = 0) 4 y ⟨a, b, c, e, fun t ht => absurd ht (Nat.not_lt_zero t)⟩ ?_ ?_
    · rintro n y ⟨a, b, c, e, f⟩
      unfold PX6_begin_L73
      exact br_t (Int32.le_refl _) (hp y ⟨a, e, b, fun q hq => ⟨c q hq, (f q hq).1, (f q hq).2.1, (f q hq).2.2⟩⟩)
    · rintro n i y hi ⟨a, b, c, e, f⟩ next
      unfold PX6_begin_L73
      rw [nI_31 (show i < 1000 by omega)]
      refine br_f (fr_nle (b := 4) hi (by omega)) ⟨vp_in_q hi (by omega), ?_⟩
      rintro _ rfl
      refine ⟨vp_in_q hi (by omega), ?_⟩
      rintro _ rfl
      refine ⟨vp_in_q hi (by omega), ?_⟩
      rintro _ rfl _ rfl
      rw [nI_1]
      refine next _ ⟨a, b, c, e, fun q hq => ?_⟩
      show upd (y.2.1 6) i (-1) q = -1 ∧ upd (y.2.1 7) i 0 q = 0 ∧ upd (y.2.1 8) i 0 q = 0
      by_cases g : q = i
      · rw [g, upd_eq, upd_eq, upd_eq]
        exact ⟨rfl, rfl, rfl⟩
      · rw [upd_ne _ _ g, upd_ne _ _ g, upd_ne _ _ g]
        exact f q (by omega)
  · rintro n i y hi ⟨a, b, c, e⟩ next
    unfold PX6_begin_L52
    rw [nI_31 (show i < 1000 by omega)]
    refine br_f (fr_nle (b := 10) hi (by omega)) ⟨vp_in_q hi (by omega), ?_⟩
    rintro _ rfl _ rfl
    rw [nI_1]
    refine next _ ⟨a, b, c, fun t ht => ?_⟩
    show upd (y.2.1 3) i 0 t = 0
    by_cases g : t = i
    · rw [g, upd_eq]
    · rw [upd_ne _ _ g]
      exact e t (by omega)
