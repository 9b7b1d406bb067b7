/-! 65: what is told of a scene; the whole relation -/
def Row (S T Q : Nat) (s : OV) (f : Nat → Int32) : Prop := (f 0 = s.1 1 ∧ f 1 = s.1 2 ∧ f 2 = s.1 0) ∧ (∀ t, t < S → f (3 + t) = s.2.1 3 t) ∧ (∀ k, k < T → f (13 + k) = s.2.1 4 k) ∧ ∀ q, q < Q → f (19 + q) = s.2.1 5 q ∧ f (23 + q) = s.2.1 6 q ∧ f (27 + q) = s.2.1 7 q ∧ f (31 + q) = s.2.1 8 q
theorem Row_of {S T Q : Nat} {s m m' : OV} {r : Nat} (hS : S ≤ 10) (hT : T ≤ 6) (hQ : Q ≤ 4) (sr : SRel s S T Q m) (c : Cp 55 (35 * r) m m' LRow) : Row S T Q s (fun j => m'.2.1 55 (35 * r + j)) := by
  obtain ⟨⟨a, b, d⟩, e, f, g⟩ := sr
  refine ⟨⟨?_, ?_, ?_⟩, fun t ht => ?_, fun k hk => ?_, fun q hq => ⟨?_, ?_, ?_, ?_⟩⟩
  · exact (c (0, 1, 0, 1) (by decide) 0 (by decide)).trans a
  · exact (c (1, 1, 7, 1) (by decide) 0 (by decide)).trans b
  · exact (c (2, 1, 8, 1) (by decide) 0 (by decide)).trans d
  · have := c (3, 5, 0, 10) (by decide) t (show t < 10 by omega)
    rw [Nat.zero_add, e t ht, Nat.add_assoc] at this
    exact this
  · have := c (13, 6, 0, 6) (by decide) k (show k < 6 by omega)
    rw [Nat.zero_add, f k hk, Nat.add_assoc] at this
    exact this
  · have := c (19, 9, 0, 4) (by decide) q (show q < 4 by omega)
    rw [Nat.zero_add, (g q hq).1, Nat.add_assoc] at this
    exact this
  · have := c (23, 11, 0, 4) (by decide) q (show q < 4 by omega)
    rw [Nat.zero_add, (g q hq).2.1, Nat.add_assoc] at this
    exact this
  · have := c (27, 12, 0, 4) (by decide) q (show q < 4 by omega)
    rw [Nat.zero_add, (g q hq).2.2.1, Nat.add_assoc] at this
    exact this
  · have := c (31, 13, 0, 4) (by decide) q (show q < 4 by omega)
    rw [Nat.zero_add, (g q hq).2.2.2, Nat.add_assoc] at this
    exact this
theorem Row_to {S T Q : Nat} {s m m' : OV} {r : Nat} (hS : S ≤ 10) (hT : T ≤ 6) (hQ : Q ≤ 4) (w : Row S T Q s (fun j => m.2.1 55 (35 * r + j))) (c : Ld 55 (35 * r) m m' LRow) : SRel s S T Q m' := by
  obtain ⟨⟨a, b, d⟩, e, f, g⟩ := w
  refine ⟨⟨?_, ?_, ?_⟩, fun t ht => ?_, fun k hk => ?_, fun q hq => ⟨?_, ?_, ?_, ?_⟩⟩
  · exact (c (0, 1, 0, 1) (by decide) 0 (by decide)).trans a
  · exact (c (1, 1, 7, 1) (by decide) 0 (by decide)).trans b
  · exact (c (2, 1, 8, 1) (by decide) 0 (by decide)).trans d
  · have := c (3, 5, 0, 10) (by decide) t (show t < 10 by omega)
    rw [Nat.zero_add, Nat.add_assoc] at this
    exact this.trans (e t ht)
  · have := c (13, 6, 0, 6) (by decide) k (show k < 6 by omega)
    rw [Nat.zero_add, Nat.add_assoc] at this
    exact this.trans (f k hk)
  · have := c (19, 9, 0, 4) (by decide) q (show q < 4 by omega)
    rw [Nat.zero_add, Nat.add_assoc] at this
    exact this.trans (g q hq).1
  · have := c (23, 11, 0, 4) (by decide) q (show q < 4 by omega)
    rw [Nat.zero_add, Nat.add_assoc] at this
    exact this.trans (g q hq).2.1
  · have := c (27, 12, 0, 4) (by decide) q (show q < 4 by omega)
    rw [Nat.zero_add, Nat.add_assoc] at this
    exact this.trans (g q hq).2.2.1
  · have := c (31, 13, 0, 4) (by decide) q (show q < 4 by omega)
    rw [Nat.zero_add, Nat.add_assoc] at this
    exact this.trans (g q hq).2.2.2
theorem Row_congr {S T Q : Nat} {s : OV} {f g : Nat → Int32} (hS : S ≤ 10) (hT : T ≤ 6) (hQ : Q ≤ 4) (e : ∀ j, j < 35 → g j = f j) (w : Row S T Q s f) : Row S T Q s g := by
  obtain ⟨⟨a, b, d⟩, w2, w3, w4⟩ := w
  refine ⟨⟨(e 0 (by omega)).trans a, (e 1 (by omega)).trans b, (e 2 (by omega)).trans d⟩, fun t ht => (e _ (by omega)).trans (w2 t ht), fun k hk => (e _ (by omega)).trans (w3 k hk), fun q hq => ⟨(e _ (by omega)).trans (w4 q hq).1, (e _ (by omega)).trans (w4 q hq).2.1, (e _ (by omega)).trans (w4 q hq).2.2.1, (e _ (by omega)).trans (w4 q hq).2.2.2⟩⟩
/-- the same state, where it is looked at -/
def SEq (s z : OV) : Prop := (z.1 0 = s.1 0 ∧ z.1 1 = s.1 1 ∧ z.1 2 = s.1 2) ∧ (∀ t, t < 10 → z.2.1 3 t = s.2.1 3 t) ∧ (∀ k, k < 6 → z.2.1 4 k = s.2.1 4 k) ∧ ∀ q, q < 4 → z.2.1 5 q = s.2.1 5 q ∧ z.2.1 6 q = s.2.1 6 q ∧ z.2.1 7 q = s.2.1 7 q ∧ z.2.1 8 q = s.2.1 8 q
theorem SEq_refl (s : OV) : SEq s s := ⟨⟨rfl, rfl, rfl⟩, fun _ _ => rfl, fun _ _ => rfl, fun _ _ => ⟨rfl, rfl, rfl, rfl⟩⟩
theorem Sok_eq {s z : OV} {S Q d e : Nat} (hS : S ≤ 10) (q : SEq s z) (o : Sok s S Q d e) : Sok z S Q d e := by
  obtain ⟨⟨a, b, c⟩, e3, e4, e5⟩ := q
  unfold Sok at o ⊢
  rw [a, b, c]
  refine ⟨o.1, o.2.1, o.2.2.1, fun t ht => by rw [e3 t (by omega)]; exact o.2.2.2.1 t ht, fun q hq => by rw [(e5 q hq).2.2.1, (e5 q hq).2.1]; exact o.2.2.2.2.1 q hq, fun q a b => by rw [(e5 q b).2.1, (e5 q b).2.2.2]; exact o.2.2.2.2.2 q a b⟩
theorem SRel_eq {s z m : OV} {S T Q : Nat} (hS : S ≤ 10) (hT : T ≤ 6) (hQ : Q ≤ 4) (q : SEq s z) (o : SRel s S T Q m) : SRel z S T Q m := by
  obtain ⟨⟨a, b, c⟩, e3, e4, e5⟩ := q
  unfold SRel at o ⊢
  rw [a, b, c]
  refine ⟨o.1, fun t ht => by rw [e3 t (by omega)]; exact o.2.1 t ht, fun q hq => by rw [e4 q (by omega)]; exact o.2.2.1 q hq, fun q a => by rw [(e5 q (by omega)).1, (e5 q (by omega)).2.1, (e5 q (by omega)).2.2.1, (e5 q (by omega)).2.2.2]; exact o.2.2.2 q a⟩
theorem Row_eq {s z : OV} {S T Q : Nat} {f : Nat → Int32} (hS : S ≤ 10) (hT : T ≤ 6) (hQ : Q ≤ 4) (q : SEq s z) (o : Row S T Q s f) : Row S T Q z f := by
  obtain ⟨⟨a, b, c⟩, e3, e4, e5⟩ := q
  unfold Row at o ⊢
  rw [a, b, c]
  refine ⟨o.1, fun t ht => by rw [e3 t (by omega)]; exact o.2.1 t ht, fun q hq => by rw [e4 q (by omega)]; exact o.2.2.1 q hq, fun q a => by rw [(e5 q (by omega)).1, (e5 q (by omega)).2.1, (e5 q (by omega)).2.2.1, (e5 q (by omega)).2.2.2]; exact o.2.2.2 q a⟩
def Told (h : OV) (T Q : Nat) (m : OV) : Prop := h.1 0 = 1 → ((∀ k, k < T → m.2.1 17 k = h.2.1 10 k) ∧ (∀ q, q < Q → m.2.1 18 q = h.2.1 14 q) ∧ m.2.1 19 0 = h.1 1 ∧ m.2.1 19 1 = h.1 8)
def Nms (c : OV) (Q : Nat) (m : OV) : Prop := ∃ nn, c.1 7 = nI nn ∧ nn ≤ 10 ∧ m.2.1 1 9 = nI nn ∧ ∀ k, k < nn → m.2.1 15 k = c.2.1 8 k ∧ m.2.1 16 k = c.2.1 9 k ∧ isIx (c.2.1 8 k) 61 ∧ isIx (c.2.1 9 k) Q
def Fce (n : Nat) (c m : OV) : Prop := m.2.1 1 11 = c.1 1 ∧ (c.1 1 = -1 ∨ isIx (c.1 1) n)
def Drw (c m : OV) : Prop := m.2.1 1 10 = c.1 2 ∧ ¬ c.1 2 < 0
def Pst (S T Q : Nat) (c : OV) (pp : Nat → OV) (m : OV) : Prop := ∃ a p, c.1 6 = nI a ∧ c.1 5 = nI p ∧ a ≤ 20 ∧ p < 20 ∧ m.1 57 = nI a ∧ ∀ i, i < a → Row S T Q (pp ((p + 20 - a + i) % 20)) (fun j => m.2.1 55 (35 * i + j)) ∧ ∃ d, d ≤ 999 ∧ Sok (pp ((p + 20 - a + i) % 20)) S Q d d
def Scn (n : Nat) (c h s : OV) (pp : Nat → OV) (m : OV) (S T Q K d : Nat) : Prop := Hok h S T Q K ∧ Hv h S Q ∧ HRel h S T Q K m ∧ Sok s S Q d d ∧ d ≤ 999 ∧ SRel s S T Q m ∧ Told h T Q m ∧ Nms c Q m ∧ Fce n c m ∧ Drw c m ∧ Pst S T Q c pp m
def LAg : List (Nat × Nat) := [(1, 12), (5, 10), (6, 6), (9, 4), (11, 4), (12, 4), (13, 4), (2, 10), (3, 10), (4, 10), (7, 4), (8, 4), (10, 4), (14, 8), (15, 10), (16, 10), (17, 6), (18, 4), (19, 2), (55, 700)]
/-- alike in all that a scene is -/
def AG (m m' : OV) : Prop := (∀ p ∈ LAg, ∀ j, j < p.2 → m'.2.1 p.1 j = m.2.1 p.1 j) ∧ m'.1 57 = m.1 57
theorem AG_trans {m m' m'' : OV} (a : AG m m') (b : AG m' m'') : AG m m'' := ⟨fun p hp j hj => (b.1 p hp j hj).trans (a.1 p hp j hj), b.2.trans a.2⟩
theorem AG_refl (m : OV) : AG m m := ⟨fun _ _ _ _ => rfl, rfl⟩
theorem AG_fr {I A C L : List Nat} {m m' : OV} (f : Fr I A C L m m') (hI : 57 ∉ I) (hA : ∀ p ∈ LAg, p.1 ∉ A) (hC : C = []) : AG m m' := ⟨fun p hp j _ => by
  by_cases e : p.1 = 1
  · rw [e]
    exact f.2.2.1 j (by rw [hC]; simp)
  · rw [f.2.1 p.1 (hA p hp) e], f.1 57 hI⟩
theorem HRel_ag {h m m' : OV} {S T Q K : Nat} (lim : Lim S T Q K) (g : AG m m') (r : HRel h S T Q K m) : HRel h S T Q K m' := by
  obtain ⟨l1, l2, l3, l4⟩ := lim
  obtain ⟨⟨a1, a2, a3, a4, a5, a6⟩, b, c, d⟩ := r
  have s := g.1 (1, 12) (by decide)
  refine ⟨⟨(s 1 (by decide)).trans a1, (s 2 (by decide)).trans a2, (s 3 (by decide)).trans a3, (s 4 (by decide)).trans a4, (s 5 (by decide)).trans a5, (s 6 (by decide)).trans a6⟩, fun t ht => ?_, fun q hq => ?_, fun k hk => ?_⟩
  · exact ⟨(g.1 (2, 10) (by decide) t (show t < 10 by omega)).trans (b t ht).1, (g.1 (3, 10) (by decide) t (show t < 10 by omega)).trans (b t ht).2.1, (g.1 (4, 10) (by decide) t (show t < 10 by omega)).trans (b t ht).2.2⟩
  · exact ⟨(g.1 (7, 4) (by decide) q (show q < 4 by omega)).trans (c q hq).1, (g.1 (8, 4) (by decide) q (show q < 4 by omega)).trans (c q hq).2.1, (g.1 (10, 4) (by decide) q (show q < 4 by omega)).trans (c q hq).2.2⟩
  · exact (g.1 (14, 8) (by decide) k (show k < 8 by omega)).trans (d k hk)
theorem SRel_ag {s m m' : OV} {S T Q K : Nat} (lim : Lim S T Q K) (g : AG m m') (r : SRel s S T Q m) : SRel s S T Q m' := by
  obtain ⟨l1, l2, l3, l4⟩ := lim
  obtain ⟨⟨a1, a2, a3⟩, b, c, d⟩ := r
  have s := g.1 (1, 12) (by decide)
  refine ⟨⟨(s 0 (by decide)).trans a1, (s 7 (by decide)).trans a2, (s 8 (by decide)).trans a3⟩, fun t ht => (g.1 (5, 10) (by decide) t (show t < 10 by omega)).trans (b t ht), fun k hk => (g.1 (6, 6) (by decide) k (show k < 6 by omega)).trans (c k hk), fun q hq => ?_⟩
  exact ⟨(g.1 (9, 4) (by decide) q (show q < 4 by omega)).trans (d q hq).1, (g.1 (11, 4) (by decide) q (show q < 4 by omega)).trans (d q hq).2.1, (g.1 (12, 4) (by decide) q (show q < 4 by omega)).trans (d q hq).2.2.1, (g.1 (13, 4) (by decide) q (show q < 4 by omega)).trans (d q hq).2.2.2⟩
theorem Told_ag {h m m' : OV} {S T Q K : Nat} (lim : Lim S T Q K) (g : AG m m') (r : Told h T Q m) : Told h T Q m' := by
  obtain ⟨l1, l2, l3, l4⟩ := lim
  intro e
  obtain ⟨a, b, c, d⟩ := r e
  exact ⟨fun k hk => (g.1 (17, 6) (by decide) k (show k < 6 by omega)).trans (a k hk), fun q hq => (g.1 (18, 4) (by decide) q (show q < 4 by omega)).trans (b q hq), (g.1 (19, 2) (by decide) 0 (by decide)).trans c, (g.1 (19, 2) (by decide) 1 (by decide)).trans d⟩
theorem Nms_ag {c m m' : OV} {Q : Nat} (g : AG m m') (r : Nms c Q m) : Nms c Q m' := by
  obtain ⟨nn, a, b, e, f⟩ := r
  exact ⟨nn, a, b, (g.1 (1, 12) (by decide) 9 (by decide)).trans e, fun k hk => ⟨(g.1 (15, 10) (by decide) k (show k < 10 by omega)).trans (f k hk).1, (g.1 (16, 10) (by decide) k (show k < 10 by omega)).trans (f k hk).2.1, (f k hk).2.2⟩⟩
theorem Pst_ag {c m m' : OV} {S T Q K : Nat} {pp : Nat → OV} (lim : Lim S T Q K) (g : AG m m') (r : Pst S T Q c pp m) : Pst S T Q c pp m' := by
  obtain ⟨a, p, e1, e2, h1, h2, e3, w⟩ := r
  exact ⟨a, p, e1, e2, h1, h2, g.2.trans e3, fun i hi => ⟨Row_congr lim.1 lim.2.1 lim.2.2.1 (fun j hj => g.1 (55, 700) (by decide) (35 * i + j) (show 35 * i + j < 700 by omega)) (w i hi).1, (w i hi).2⟩⟩
theorem Scn_ag {n : Nat} {c h s m m' : OV} {pp : Nat → OV} {S T Q K d : Nat} (g : AG m m') (r : Scn n c h s pp m S T Q K d) : Scn n c h s pp m' S T Q K d := by
  obtain ⟨r1, r2, r3, r4, r5, r6, r7, r8, r9, r10, r11⟩ := r
  exact ⟨r1, r2, HRel_ag r1.1 g r3, r4, r5, SRel_ag r1.1 g r6, Told_ag r1.1 g r7, Nms_ag g r8, ⟨(g.1 (1, 12) (by decide) 11 (by decide)).trans r9.1, r9.2⟩, ⟨(g.1 (1, 12) (by decide) 10 (by decide)).trans r10.1, r10.2⟩, Pst_ag r1.1 g r11⟩
/-- an image as the reference itself would be -/
def vwA (f : Nat → Int32) (k j : Nat) : Int32 := match k with
  | 1 => f j
  | 5 => f (12 + j)
  | 6 => f (22 + j)
  | 9 => f (28 + j)
  | 11 => f (32 + j)
  | 12 => f (36 + j)
  | 13 => f (40 + j)
  | 2 => f (45 + j)
  | 3 => f (55 + j)
  | 4 => f (65 + j)
  | 7 => f (75 + j)
  | 8 => f (79 + j)
  | 10 => f (83 + j)
  | 14 => f (87 + j)
  | 15 => f (95 + j)
  | 16 => f (105 + j)
  | 17 => f (115 + j)
  | 18 => f (121 + j)
  | 19 => f (125 + j)
  | 55 => f (127 + j)
  | _ => 0
def vwM (m : OV) (k : Nat) : OV := (fun _ => m.2.1 63 (950 * k + 44), vwA (fun j => m.2.1 63 (950 * k + j)), fun _ _ => 0)
theorem AG_to {m m' : OV} {r : Nat} (c : Cp 63 (950 * r) (sa m 56 (upd (m.2.1 56) 0 (m.1 57))) m' LImg) : AG m (vwM m' r) := by
  refine ⟨?_, ?_⟩
  · have key : ∀ p ∈ LAg, ∃ off, (off, p.1, 0, p.2) ∈ LImg ∧ (∀ j, (vwM m' r).2.1 p.1 j = m'.2.1 63 (950 * r + (off + j))) ∧ p.1 ≠ 56 := by
      intro p hp
      simp only [LAg, List.mem_cons, List.not_mem_nil, or_false] at hp
      rcases hp with rfl | rfl | rfl | rfl | rfl | rfl | rfl | rfl | rfl | rfl | rfl | rfl | rfl | rfl | rfl | rfl | rfl | rfl | rfl | rfl
      · exact ⟨0, by decide, fun j => by rw [Nat.zero_add]; rfl, by decide⟩
      · exact ⟨12, by decide, fun j => rfl, by decide⟩
      · exact ⟨22, by decide, fun j => rfl, by decide⟩
      · exact ⟨28, by decide, fun j => rfl, by decide⟩
      · exact ⟨32, by decide, fun j => rfl, by decide⟩
      · exact ⟨36, by decide, fun j => rfl, by decide⟩
      · exact ⟨40, by decide, fun j => rfl, by decide⟩
      · exact ⟨45, by decide, fun j => rfl, by decide⟩
      · exact ⟨55, by decide, fun j => rfl, by decide⟩
      · exact ⟨65, by decide, fun j => rfl, by decide⟩
      · exact ⟨75, by decide, fun j => rfl, by decide⟩
      · exact ⟨79, by decide, fun j => rfl, by decide⟩
      · exact ⟨83, by decide, fun j => rfl, by decide⟩
      · exact ⟨87, by decide, fun j => rfl, by decide⟩
      · exact ⟨95, by decide, fun j => rfl, by decide⟩
      · exact ⟨105, by decide, fun j => rfl, by decide⟩
      · exact ⟨115, by decide, fun j => rfl, by decide⟩
      · exact ⟨121, by decide, fun j => rfl, by decide⟩
      · exact ⟨125, by decide, fun j => rfl, by decide⟩
      · exact ⟨127, by decide, fun j => rfl, by decide⟩
    intro p hp j hj
    obtain ⟨off, a, b, n⟩ := key p hp
    rw [b j]
    have := c _ a j hj
    rw [Nat.add_assoc] at this
    rw [this]
    show (sa m 56 (upd (m.2.1 56) 0 (m.1 57))).2.1 p.1 (0 + j) = _
    rw [Nat.zero_add, sa_ne m _ n]
  · have := c (44, 56, 0, 1) (by decide) 0 (by decide)
    show m'.2.1 63 (950 * r + 44) = m.1 57
    refine this.trans ?_
    show (sa m 56 (upd (m.2.1 56) 0 (m.1 57))).2.1 56 0 = m.1 57
    rw [sa_at, upd_eq]
theorem AG_from {m m' : OV} {r : Nat} (c : Ld 63 (950 * r) m m' LImg) (e : m'.1 57 = m.2.1 63 (950 * r + 44)) : AG (vwM m r) m' := by
  refine ⟨?_, e⟩
  have key : ∀ p ∈ LAg, ∃ off, (off, p.1, 0, p.2) ∈ LImg ∧ (∀ j, (vwM m r).2.1 p.1 j = m.2.1 63 (950 * r + (off + j))) := by
    intro p hp
    simp only [LAg, List.mem_cons, List.not_mem_nil, or_false] at hp
    rcases hp with rfl | rfl | rfl | rfl | rfl | rfl | rfl | rfl | rfl | rfl | rfl | rfl | rfl | rfl | rfl | rfl | rfl | rfl | rfl | rfl
    · exact ⟨0, by decide, fun j => by rw [Nat.zero_add]; rfl⟩
    · exact ⟨12, by decide, fun j => rfl⟩
    · exact ⟨22, by decide, fun j => rfl⟩
    · exact ⟨28, by decide, fun j => rfl⟩
    · exact ⟨32, by decide, fun j => rfl⟩
    · exact ⟨36, by decide, fun j => rfl⟩
    · exact ⟨40, by decide, fun j => rfl⟩
    · exact ⟨45, by decide, fun j => rfl⟩
    · exact ⟨55, by decide, fun j => rfl⟩
    · exact ⟨65, by decide, fun j => rfl⟩
    · exact ⟨75, by decide, fun j => rfl⟩
    · exact ⟨79, by decide, fun j => rfl⟩
    · exact ⟨83, by decide, fun j => rfl⟩
    · exact ⟨87, by decide, fun j => rfl⟩
    · exact ⟨95, by decide, fun j => rfl⟩
    · exact ⟨105, by decide, fun j => rfl⟩
    · exact ⟨115, by decide, fun j => rfl⟩
    · exact ⟨121, by decide, fun j => rfl⟩
    · exact ⟨125, by decide, fun j => rfl⟩
    · exact ⟨127, by decide, fun j => rfl⟩
  intro p hp j hj
  obtain ⟨off, a, b⟩ := key p hp
  rw [b j]
  have := c _ a j hj
  rw [Nat.add_assoc] at this
  rw [← this]
  show m'.2.1 p.1 j = m'.2.1 p.1 (0 + j)
  rw [Nat.zero_add]
