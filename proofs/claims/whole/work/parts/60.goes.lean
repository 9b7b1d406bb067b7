/-! 60: a day, by the reference -/
theorem SRel_5 {s m : OV} {S T Q : Nat} (t : Nat) (x : Int32) (r : SRel s S T Q m) : SRel (sa s 3 (upd (s.2.1 3) t x)) S T Q (sa m 5 (upd (m.2.1 5) t x)) := ⟨r.1, fun j hj => by show upd (m.2.1 5) t x j = upd (s.2.1 3) t x j; unfold upd; rw [r.2.1 j hj], r.2.2.1, r.2.2.2⟩
theorem SRel_6 {s m : OV} {S T Q : Nat} (t : Nat) (x : Int32) (r : SRel s S T Q m) : SRel (sa s 4 (upd (s.2.1 4) t x)) S T Q (sa m 6 (upd (m.2.1 6) t x)) := ⟨r.1, r.2.1, fun j hj => by show upd (m.2.1 6) t x j = upd (s.2.1 4) t x j; unfold upd; rw [r.2.2.1 j hj], r.2.2.2⟩
theorem SRel_9 {s m : OV} {S T Q : Nat} (t : Nat) (x : Int32) (r : SRel s S T Q m) : SRel (sa s 5 (upd (s.2.1 5) t x)) S T Q (sa m 9 (upd (m.2.1 9) t x)) := ⟨r.1, r.2.1, r.2.2.1, fun j hj => ⟨by show upd (m.2.1 9) t x j = upd (s.2.1 5) t x j; unfold upd; rw [(r.2.2.2 j hj).1], (r.2.2.2 j hj).2⟩⟩
theorem SRel_11 {s m : OV} {S T Q : Nat} (t : Nat) (x : Int32) (r : SRel s S T Q m) : SRel (sa s 6 (upd (s.2.1 6) t x)) S T Q (sa m 11 (upd (m.2.1 11) t x)) := ⟨r.1, r.2.1, r.2.2.1, fun j hj => ⟨(r.2.2.2 j hj).1, by show upd (m.2.1 11) t x j = upd (s.2.1 6) t x j; unfold upd; rw [(r.2.2.2 j hj).2.1], (r.2.2.2 j hj).2.2⟩⟩
theorem SRel_12 {s m : OV} {S T Q : Nat} (t : Nat) (x : Int32) (r : SRel s S T Q m) : SRel (sa s 7 (upd (s.2.1 7) t x)) S T Q (sa m 12 (upd (m.2.1 12) t x)) := ⟨r.1, r.2.1, r.2.2.1, fun j hj => ⟨(r.2.2.2 j hj).1, (r.2.2.2 j hj).2.1, by show upd (m.2.1 12) t x j = upd (s.2.1 7) t x j; unfold upd; rw [(r.2.2.2 j hj).2.2.1], (r.2.2.2 j hj).2.2.2⟩⟩
theorem SRel_13 {s m : OV} {S T Q : Nat} (t : Nat) (x : Int32) (r : SRel s S T Q m) : SRel (sa s 8 (upd (s.2.1 8) t x)) S T Q (sa m 13 (upd (m.2.1 13) t x)) := ⟨r.1, r.2.1, r.2.2.1, fun j hj => ⟨(r.2.2.2 j hj).1, (r.2.2.2 j hj).2.1, (r.2.2.2 j hj).2.2.1, by show upd (m.2.1 13) t x j = upd (s.2.1 8) t x j; unfold upd; rw [(r.2.2.2 j hj).2.2.2]⟩⟩
theorem SRel_tin {s m : OV} {S T Q : Nat} (x : Int32) (r : SRel s S T Q m) : SRel (si s 2 x) S T Q (sa m 1 (upd (m.2.1 1) 7 x)) := ⟨⟨r.1.1, rfl, r.1.2.2⟩, r.2.1, r.2.2.1, r.2.2.2⟩
theorem SRel_day {s m : OV} {S T Q : Nat} (x : Int32) (r : SRel s S T Q m) : SRel (si s 0 x) S T Q (sa m 1 (upd (m.2.1 1) 8 x)) := ⟨⟨r.1.1, r.1.2.1, rfl⟩, r.2.1, r.2.2.1, r.2.2.2⟩
theorem SRel_fig {s m : OV} {S T Q : Nat} (x : Int32) (r : SRel s S T Q m) : SRel (si s 1 x) S T Q (sa m 1 (upd (m.2.1 1) 0 x)) := ⟨⟨rfl, r.1.2.1, r.1.2.2⟩, r.2.1, r.2.2.1, r.2.2.2⟩
theorem Sok_wear {s : OV} {S Q d e : Nat} (t : Nat) {x : Int32} (hx : isIx x 100) (o : Sok s S Q d e) : Sok (sa s 3 (upd (s.2.1 3) t x)) S Q d e := ⟨o.1, o.2.1, o.2.2.1, fun j hj => by
  show isIx (upd (s.2.1 3) t x j) 100
  by_cases c : j = t
  · rw [c, upd_eq]; exact hx
  · rw [upd_ne _ _ c]; exact o.2.2.2.1 j hj, o.2.2.2.2⟩
theorem Sok_worth {s : OV} {S Q d e : Nat} (f : Nat → Int32) (o : Sok s S Q d e) : Sok (sa s 4 f) S Q d e := o
theorem Sok_carr {s : OV} {S Q d e : Nat} (f : Nat → Int32) (o : Sok s S Q d e) : Sok (sa s 5 f) S Q d e := o
theorem Sok_found {s : OV} {S Q d e q : Nat} (hq : q < Q) {x : Int32} (hx : x = -1 ∨ isIx x e) (o : Sok s S Q d e) : Sok (sa s 6 (upd (s.2.1 6) q x)) S Q d e := ⟨o.1, o.2.1, o.2.2.1, o.2.2.2.1, fun j hj => ⟨(o.2.2.2.2.1 j hj).1, by
  show upd (s.2.1 6) q x j = -1 ∨ isIx (upd (s.2.1 6) q x j) e
  by_cases c : j = q
  · rw [c, upd_eq]; exact hx
  · rw [upd_ne _ _ c]; exact (o.2.2.2.2.1 j hj).2⟩, fun j a b => ⟨by
  show upd (s.2.1 6) q x j = -1
  rw [upd_ne _ _ (by omega)]
  exact (o.2.2.2.2.2 j a b).1, (o.2.2.2.2.2 j a b).2⟩⟩
theorem Sok_vain {s : OV} {S Q d e : Nat} (t : Nat) {x : Int32} (hx : isIx x 100) (o : Sok s S Q d e) : Sok (sa s 7 (upd (s.2.1 7) t x)) S Q d e := ⟨o.1, o.2.1, o.2.2.1, o.2.2.2.1, fun j hj => ⟨by
  show isIx (upd (s.2.1 7) t x j) 100
  by_cases c : j = t
  · rw [c, upd_eq]; exact hx
  · rw [upd_ne _ _ c]; exact (o.2.2.2.2.1 j hj).1, (o.2.2.2.2.1 j hj).2⟩, o.2.2.2.2.2⟩
theorem Sok_tried {s : OV} {S Q d e q : Nat} (hq : q < Q) (x : Int32) (o : Sok s S Q d e) : Sok (sa s 8 (upd (s.2.1 8) q x)) S Q d e := ⟨o.1, o.2.1, o.2.2.1, o.2.2.2.1, o.2.2.2.2.1, fun j a b => ⟨(o.2.2.2.2.2 j a b).1, by
  show upd (s.2.1 8) q x j = 0
  rw [upd_ne _ _ (by omega)]
  exact (o.2.2.2.2.2 j a b).2⟩⟩
theorem Sok_tin {s : OV} {S Q d e : Nat} {x : Int32} (hx : x = -1 ∨ isIx x S) (o : Sok s S Q d e) : Sok (si s 2 x) S Q d e := ⟨o.1, hx, o.2.2.1, o.2.2.2⟩
theorem Sok_up {s : OV} {S Q d e e' : Nat} (h : e ≤ e') (o : Sok s S Q d e) : Sok s S Q d e' := ⟨o.1, o.2.1, o.2.2.1, o.2.2.2.1, fun q hq => ⟨(o.2.2.2.2.1 q hq).1, (o.2.2.2.2.1 q hq).2.imp id (fun ⟨t, ht, y⟩ => ⟨t, by omega, y⟩)⟩, o.2.2.2.2.2⟩
theorem Sok_day {s : OV} {S Q d e : Nat} (o : Sok s S Q d e) : Sok (dayS s) S Q (d + 1) e := ⟨by show s.1 0 + 1 = _; rw [o.1, nI_1], o.2⟩
theorem Sok_trc {s : OV} {S Q d e q t : Nat} (hq : q < Q) (ht : t < S) (o : Sok s S Q d e) : Sok (trc q t s) S Q d e := Sok_tried hq _ (Sok_wear t (c99_ix (o.2.2.2.1 t ht)) o)
theorem Sok_trS {s : OV} {S Q d e q : Nat} {x : LK} (hS : S ≤ 10) (hq : q < Q) (hl : ∀ j, j < x.2.1 → ∃ t, t < S ∧ x.2.2.1 j = nI t) (o : Sok s S Q d e) : ∀ n, n ≤ x.2.1 → Sok (trS x q n s) S Q d e
  | 0, _ => o
  | n + 1, hn => by
    obtain ⟨t, ht, et⟩ := hl n (by omega)
    show Sok (trc q (x.2.2.1 n).toNatClampNeg (trS x q n s)) S Q d e
    rw [et, nI_31 (show t < 1000 by omega)]
    exact Sok_trc hq ht (Sok_trS hS hq hl o n (by omega))
theorem trS_same {s : OV} {q : Nat} {x : LK} : ∀ n, (trS x q n s).1 = s.1 ∧ (trS x q n s).2.1 6 = s.2.1 6
  | 0 => ⟨rfl, rfl⟩
  | n + 1 => trS_same n
theorem Sok_sw {s : OV} {S Q T d e q : Nat} (o : Sok s S Q d e) : Sok (swS s T q) S Q d e := by
  unfold swS
  split
  · exact o
  · split
    · exact o
    · exact Sok_worth _ (Sok_carr _ o)
theorem sw_tin {s : OV} {T q : Nat} : (swS s T q).1 = s.1 := by
  unfold swS
  split
  · rfl
  · split
    · rfl
    · rfl
theorem nI_ltZ {t S : Nat} (hS : S ≤ 1000) (ht : t < S) : (nI S - 1 ≤ nI t ↔ ¬ t + 1 < S) := by
  obtain ⟨k, rfl⟩ : ∃ k, S = k + 1 := ⟨S - 1, by omega⟩
  rw [nI_dn1, nI_leI (by omega) (by omega)]
  omega
theorem pb_tin {s : OV} {S : Nat} {sh : Int32} (hS : S ≤ 10) (h : isIx (s.1 2) S) : isIx ((pbS S sh s).1 2) S := by
  obtain ⟨t, ht, e⟩ := h
  unfold pbS
  rw [e]
  split
  · split
    · exact ⟨t, ht, e⟩
    · rename_i c
      rw [nI_ltZ (by omega) ht, Classical.not_not] at c
      exact ⟨t + 1, c, nI_1 t⟩
  · split
    · split
      · exact ⟨t, ht, e⟩
      · rename_i c
        rcases Nat.eq_zero_or_pos t with z | z
        · rw [z] at c
          exact absurd (by decide) c
        · obtain ⟨k, rfl⟩ : ∃ k, t = k + 1 := ⟨t - 1, by omega⟩
          exact ⟨k, by omega, nI_dn1⟩
    · exact ⟨t, ht, e⟩
theorem Sok_pb {s : OV} {S Q d e : Nat} {sh : Int32} (hS : S ≤ 10) (h : isIx (s.1 2) S) (o : Sok s S Q d e) : Sok (pbS S sh s) S Q d e := by
  have p := pb_tin (sh := sh) hS h
  revert p
  unfold pbS
  split
  · split
    · exact fun _ => o
    · exact fun p => Sok_tin (Or.inr p) o
  · split
    · split
      · exact fun _ => o
      · exact fun p => Sok_tin (Or.inr p) o
    · exact fun _ => o
theorem Sok_lf {ρ : Option OV} {h s : OV} {S T Q d e q : Nat} (hS : S ≤ 10) (hQ : Q ≤ 4) (hq : q < Q) (de : d < e) (o : Sok s S Q d e) : Sok (lfS ρ h S T q s) S Q d e := by
  obtain ⟨k1, k2, k3⟩ := look_ok (ρ := ρ) (h := h) (s := s) (q := q) hS
  have ot := Sok_trS hS hq k2 o _ (Nat.le_refl _)
  have same := trS_same (s := s) (q := q) (x := lookS ρ h s q S) (lookS ρ h s q S).2.1
  unfold lfS
  split
  · rename_i c
    refine Sok_pb hS ?_ (Sok_sw (Sok_found hq (Or.inr ⟨d, de, ot.1⟩) ot))
    rw [sw_tin]
    show isIx ((trS (lookS ρ h s q S) q (lookS ρ h s q S).2.1 s).1 2) S
    rw [same.1]
    exact k3 c
  · exact Sok_vain q (c99_ix (ot.2.2.2.2.1 q (by omega)).1) ot
