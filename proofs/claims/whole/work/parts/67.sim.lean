/-! 67: the relation between the class's world and the reference; trials -/
theorem mp_copies {m : OV} {g0 n0 g1 n1 : Nat} (h : n0 ≤ n1) (hn : n1 ≤ 1000) (ne : g0 ≠ g1) (h0 : g0 ≠ 1) (h1 : g1 ≠ 1) {post : OV → Prop} (hp : ∀ m', Fr [] [g1] [] [] m m' → (∀ j, j < n0 → m'.2.1 g1 j = m.2.1 g0 j) → post m') : PX9_copies m g0 n0 g1 n1 post := by
  unfold PX9_copies
  refine fr_rel (fun n i m1 => PX9_copies_L2 g0 n0 g1 n1 post n (nI i) m1) (fun i m1 => Fr [] [g1] [] [] m m1 ∧ ∀ j, j < i → m1.2.1 g1 j = m.2.1 g0 j) n0 m ⟨Fr_refl, fun t ht => absurd ht (Nat.not_lt_zero t)⟩ ?_ ?_
  · rintro n m1 ⟨f, c⟩
    unfold PX9_copies_L2
    exact br_t (Int32.le_refl _) (hp m1 f c)
  · rintro n i m1 hi ⟨f, c⟩ next
    unfold PX9_copies_L2
    rw [nI_31 (show i < 1000 by omega)]
    refine br_f (nI_ge hi (by omega)) ⟨vp_in_nI hi (by omega), ?_⟩
    rintro _ rfl
    refine ⟨vp_in_nI (by omega) (by omega), ?_⟩
    rintro _ rfl _ rfl
    rw [nI_1]
    refine next _ ⟨Fr_sa (by simp) h1 f, fun j hj => ?_⟩
    rw [sa_at, f.2.1 g0 (by simp [ne]) h0]
    by_cases e : j = i
    · rw [e, upd_eq]
    · rw [upd_ne _ _ e]
      exact c j (by omega)
theorem mp_begins {m h : OV} {S T Q K : Nat} (lim : Lim S T Q K) (hr : HRel h S T Q K m) (td : Told h T Q m) (tt : h.1 0 = 1) {post : OV → Prop} (hp : ∀ m', Fr [] [5, 6, 9, 11, 12, 13] [0, 7, 8] [] m m' → SRel (begS h) S T Q m' → post m') : PX9_begins m post := by
  obtain ⟨t17, t18, t19, t20⟩ := td tt
  obtain ⟨l1, l2, l3, l4⟩ := lim
  unfold PX9_begins
  refine mp_copies (by omega) (by omega) (by decide) (by decide) (by decide) (fun m1 f1 c1 => ?_)
  refine mp_copies (by omega) (by omega) (by decide) (by decide) (by decide) (fun m2 f2 c2 => ?_)
  have g : Fr [] [5, 6, 9, 11, 12, 13] [0, 7, 8] [] m m2 := Fr_trans (Fr_mono f1 (by decide) (by decide) (by decide) (by decide)) (Fr_mono f2 (by decide) (by decide) (by decide) (by decide))
  have a6 : ∀ k, k < T → m2.2.1 6 k = h.2.1 10 k := fun k hk => by rw [f2.2.1 6 (by decide) (by decide), c1 k (by omega)]; exact t17 k hk
  have a9 : ∀ k, k < Q → m2.2.1 9 k = h.2.1 14 k := fun k hk => by rw [c2 k (by omega), f1.2.1 18 (by decide) (by decide)]; exact t18 k hk
  have b0 : m2.2.1 19 0 = h.1 1 := by rw [g.2.1 19 (by decide) (by decide)]; exact t19
  have b1 : m2.2.1 19 1 = h.1 8 := by rw [g.2.1 19 (by decide) (by decide)]; exact t20
  rintro _ rfl _ rfl _ rfl _ rfl _ rfl
  have g3 : Fr [] [5, 6, 9, 11, 12, 13] [0, 7, 8] [] m (sa (sa (sa m2 1 (upd (m2.2.1 1) 0 (m2.2.1 19 0))) 1 (upd ((sa m2 1 (upd (m2.2.1 1) 0 (m2.2.1 19 0))).2.1 1) 7 ((sa m2 1 (upd (m2.2.1 1) 0 (m2.2.1 19 0))).2.1 19 1))) 1 (upd ((sa (sa m2 1 (upd (m2.2.1 1) 0 (m2.2.1 19 0))) 1 (upd ((sa m2 1 (upd (m2.2.1 1) 0 (m2.2.1 19 0))).2.1 1) 7 ((sa m2 1 (upd (m2.2.1 1) 0 (m2.2.1 19 0))).2.1 19 1))).2.1 1) 8 0)) := Fr_sc (by decide) (Fr_sc (by decide) (Fr_sc (by decide) g))
  have s3 : (sa (sa (sa m2 1 (upd (m2.2.1 1) 0 (m2.2.1 19 0))) 1 (upd ((sa m2 1 (upd (m2.2.1 1) 0 (m2.2.1 19 0))).2.1 1) 7 ((sa m2 1 (upd (m2.2.1 1) 0 (m2.2.1 19 0))).2.1 19 1))) 1 (upd ((sa (sa m2 1 (upd (m2.2.1 1) 0 (m2.2.1 19 0))) 1 (upd ((sa m2 1 (upd (m2.2.1 1) 0 (m2.2.1 19 0))).2.1 1) 7 ((sa m2 1 (upd (m2.2.1 1) 0 (m2.2.1 19 0))).2.1 19 1))).2.1 1) 8 0)).2.1 1 0 = h.1 1 ∧ (sa (sa (sa m2 1 (upd (m2.2.1 1) 0 (m2.2.1 19 0))) 1 (upd ((sa m2 1 (upd (m2.2.1 1) 0 (m2.2.1 19 0))).2.1 1) 7 ((sa m2 1 (upd (m2.2.1 1) 0 (m2.2.1 19 0))).2.1 19 1))) 1 (upd ((sa (sa m2 1 (upd (m2.2.1 1) 0 (m2.2.1 19 0))) 1 (upd ((sa m2 1 (upd (m2.2.1 1) 0 (m2.2.1 19 0))).2.1 1) 7 ((sa m2 1 (upd (m2.2.1 1) 0 (m2.2.1 19 0))).2.1 19 1))).2.1 1) 8 0)).2.1 1 7 = h.1 8 ∧ (sa (sa (sa m2 1 (upd (m2.2.1 1) 0 (m2.2.1 19 0))) 1 (upd ((sa m2 1 (upd (m2.2.1 1) 0 (m2.2.1 19 0))).2.1 1) 7 ((sa m2 1 (upd (m2.2.1 1) 0 (m2.2.1 19 0))).2.1 19 1))) 1 (upd ((sa (sa m2 1 (upd (m2.2.1 1) 0 (m2.2.1 19 0))) 1 (upd ((sa m2 1 (upd (m2.2.1 1) 0 (m2.2.1 19 0))).2.1 1) 7 ((sa m2 1 (upd (m2.2.1 1) 0 (m2.2.1 19 0))).2.1 19 1))).2.1 1) 8 0)).2.1 1 8 = 0 := ⟨b0, b1, rfl⟩
  refine fr_rel (fun n i y => PX9_begins_L57 post n (nI i) y) (fun i y => Fr [] [5, 6, 9, 11, 12, 13] [0, 7, 8] [] m y ∧ (y.2.1 1 0 = h.1 1 ∧ y.2.1 1 7 = h.1 8 ∧ y.2.1 1 8 = 0) ∧ (∀ k, k < T → y.2.1 6 k = h.2.1 10 k) ∧ (∀ k, k < Q → y.2.1 9 k = h.2.1 14 k) ∧ ∀ t, t < i → y.2.1 5 t = 0) 10 _ ⟨g3, s3, a6, a9, fun t ht => absurd ht (Nat.not_lt_zero t)⟩ ?_ ?_
  · rintro n y ⟨fr, a, b, c, e⟩
    unfold PX9_begins_L57
    refine br_t (Int32.le_refl _) ?_
    refine fr_rel (fun n i y => PX9_begins_L78 post n (nI i) y) (fun i y => Fr [] [5, 6, 9, 11, 12, 13] [0, 7, 8] [] m y ∧ (y.2.1 1 0 = h.1 1 ∧ y.2.1 1 7 = h.1 8 ∧ y.2.1 1 8 = 0) ∧ (∀ k, k < T → y.2.1 6 k = h.2.1 10 k) ∧ (∀ k, k < Q → y.2.1 9 k = h.2.1 14 k) ∧ (∀ t, t < 10 → y.2.1 5 t = 0) ∧ ∀ q, q < i → y.2.1 11 q = -1 ∧ y.2.1 12 q = 0 ∧ y.2.1 13 q = 0) 4 y ⟨fr, a, b, c, e, fun t ht => absurd ht (Nat.not_lt_zero t)⟩ ?_ ?_
    · rintro n y ⟨fr, a, b, c, e, f⟩
      unfold PX9_begins_L78
      exact br_t (Int32.le_refl _) (hp y fr ⟨a, fun t ht => e t (by omega), b, fun q hq => ⟨c q hq, f q (by omega)⟩⟩)
    · rintro n i y hi ⟨fr, a, b, c, e, f⟩ next
      unfold PX9_begins_L78
      rw [nI_31 (show i < 1000 by omega)]
      refine br_f (fr_nle (b := 4) hi (by omega)) ⟨vp_in_q hi (by omega), ?_⟩
      rintro _ rfl
      refine ⟨vp_in_q hi (by omega), ?_⟩
      rintro _ rfl
      refine ⟨vp_in_q hi (by omega), ?_⟩
      rintro _ rfl _ rfl
      rw [nI_1]
      refine next _ ⟨Fr_sa (by decide) (by decide) (Fr_sa (by decide) (by decide) (Fr_sa (by decide) (by decide) fr)), a, b, c, e, fun q hq => ?_⟩
      show upd (y.2.1 11) i (-1) q = -1 ∧ upd (y.2.1 12) i 0 q = 0 ∧ upd (y.2.1 13) i 0 q = 0
      by_cases g : q = i
      · rw [g, upd_eq, upd_eq, upd_eq]
        exact ⟨rfl, rfl, rfl⟩
      · rw [upd_ne _ _ g, upd_ne _ _ g, upd_ne _ _ g]
        exact f q (by omega)
  · rintro n i y hi ⟨fr, a, b, c, e⟩ next
    unfold PX9_begins_L57
    rw [nI_31 (show i < 1000 by omega)]
    refine br_f (fr_nle (b := 10) hi (by omega)) ⟨vp_in_q hi (by omega), ?_⟩
    rintro _ rfl _ rfl
    rw [nI_1]
    refine next _ ⟨Fr_sa (by decide) (by decide) fr, a, b, c, fun t ht => ?_⟩
    show upd (y.2.1 5) i 0 t = 0
    by_cases g : t = i
    · rw [g, upd_eq]
    · rw [upd_ne _ _ g]
      exact e t (by omega)
/-! the whole relation -/
def sgn8 (b : Nat) : Int32 := (nI b).toInt8.toInt32
def Tap (t m : OV) : Prop := ∃ L, L ≤ 400 ∧ t.1 1 = nI L ∧ m.1 30 = nI L ∧ ∀ i, i < L → ∃ b, b < 256 ∧ t.2.1 0 i = nI b ∧ m.2.1 40 i = sgn8 b
def Rls (n : Nat) (t : OV) (pr : Nat → OV) (m : OV) : Prop := t.1 5 = nI n ∧ n ≤ 6 ∧ m.1 34 = nI n ∧ ∀ r, r < n → RuleOk (pr r) ∧ RuleRel (pr r) r m
abbrev IMG : Type := OV × OV × OV × (Nat → OV)
def Ims (n : Nat) (im : Nat → Option IMG) (m : OV) : Prop := ∀ k, k < 4 → (im k = none ∧ m.2.1 64 k = 0) ∨ ∃ x : IMG, im k = some x ∧ m.2.1 64 k = 1 ∧ ∃ S T Q K d, Scn n x.1 x.2.1 x.2.2.1 x.2.2.2 (vwM m k) S T Q K d
def Sim (t c h s : OV) (pp pr : Nat → OV) (n : Nat) (im : Nat → Option IMG) (m : OV) : Prop := (∃ S T Q K d, Scn n c h s pp m S T Q K d) ∧ Tap t m ∧ Rls n t pr m ∧ (m.1 39 = 14 ∧ m.1 50 = 0) ∧ Ims n im m
/-- what is held beside the scene -/
def Hld (m m' : OV) : Prop := (m'.1 30 = m.1 30 ∧ m'.1 34 = m.1 34 ∧ m'.1 39 = m.1 39 ∧ m'.1 50 = m.1 50) ∧ (∀ k ∈ [40, 41, 42, 43, 44, 45, 46, 64], m'.2.1 k = m.2.1 k) ∧ ∀ j, j < 3800 → m'.2.1 63 j = m.2.1 63 j
theorem Hld_refl (m : OV) : Hld m m := ⟨⟨rfl, rfl, rfl, rfl⟩, fun _ _ => rfl, fun _ _ => rfl⟩
theorem Hld_fr {I A C L : List Nat} {m m' : OV} (f : Fr I A C L m m') (hI : ∀ k ∈ [30, 34, 39, 50], k ∉ I) (hA : ∀ k ∈ [40, 41, 42, 43, 44, 45, 46, 64], k ∉ A) (h63 : 63 ∉ A) : Hld m m' := ⟨⟨f.1 30 (hI 30 (by decide)), f.1 34 (hI 34 (by decide)), f.1 39 (hI 39 (by decide)), f.1 50 (hI 50 (by decide))⟩, fun k hk => f.2.1 k (hA k hk) (fun e => by rw [e] at hk; exact absurd hk (by decide)), fun j _ => by rw [f.2.1 63 h63 (by decide)]⟩
theorem Rls_hld {n : Nat} {t m m' : OV} {pr : Nat → OV} (g : Hld m m') (r : Rls n t pr m) : Rls n t pr m' := by
  obtain ⟨a, b, c, d⟩ := r
  refine ⟨a, b, g.1.2.1.trans c, fun r hr => ⟨(d r hr).1, ?_⟩⟩
  obtain ⟨x, y⟩ := (d r hr).2
  refine ⟨by rw [g.2.1 43 (by decide)]; exact x, fun i hi => ?_⟩
  rw [g.2.1 44 (by decide), g.2.1 45 (by decide), g.2.1 46 (by decide)]
  obtain ⟨y1, y2, y3, y4⟩ := y i hi
  refine ⟨y1, y2, y3, fun j hj => ?_⟩
  rw [g.2.1 41 (by decide), g.2.1 42 (by decide)]
  exact y4 j hj
theorem vwM_ag2 {m m' : OV} {k : Nat} (e : ∀ j, j < 827 → m'.2.1 63 (950 * k + j) = m.2.1 63 (950 * k + j)) : AG (vwM m k) (vwM m' k) := by
  refine ⟨?_, e 44 (by omega)⟩
  have key : ∀ off n, off + n ≤ 827 → ∀ j, j < n → m'.2.1 63 (950 * k + (off + j)) = m.2.1 63 (950 * k + (off + j)) := fun off n h j hj => e _ (by omega)
  intro p hp
  simp only [LAg, List.mem_cons, List.not_mem_nil, or_false] at hp
  rcases hp with rfl | rfl | rfl | rfl | rfl | rfl | rfl | rfl | rfl | rfl | rfl | rfl | rfl | rfl | rfl | rfl | rfl | rfl | rfl | rfl
  · exact fun j hj => e j (by have : j < 12 := hj; omega)
  · exact fun j hj => key 12 10 (by omega) j hj
  · exact fun j hj => key 22 6 (by omega) j hj
  · exact fun j hj => key 28 4 (by omega) j hj
  · exact fun j hj => key 32 4 (by omega) j hj
  · exact fun j hj => key 36 4 (by omega) j hj
  · exact fun j hj => key 40 4 (by omega) j hj
  · exact fun j hj => key 45 10 (by omega) j hj
  · exact fun j hj => key 55 10 (by omega) j hj
  · exact fun j hj => key 65 10 (by omega) j hj
  · exact fun j hj => key 75 4 (by omega) j hj
  · exact fun j hj => key 79 4 (by omega) j hj
  · exact fun j hj => key 83 4 (by omega) j hj
  · exact fun j hj => key 87 8 (by omega) j hj
  · exact fun j hj => key 95 10 (by omega) j hj
  · exact fun j hj => key 105 10 (by omega) j hj
  · exact fun j hj => key 115 6 (by omega) j hj
  · exact fun j hj => key 121 4 (by omega) j hj
  · exact fun j hj => key 125 2 (by omega) j hj
  · exact fun j hj => key 127 700 (by omega) j hj
theorem vwM_ag {m m' : OV} {k : Nat} (hk : k < 4) (e : ∀ j, j < 3800 → m'.2.1 63 j = m.2.1 63 j) : AG (vwM m k) (vwM m' k) := vwM_ag2 (fun j hj => e _ (by omega))
theorem Ims_hld {n : Nat} {im : Nat → Option IMG} {m m' : OV} (g : Hld m m') (r : Ims n im m) : Ims n im m' := by
  intro k hk
  rcases r k hk with ⟨a, b⟩ | ⟨x, a, b, S, T, Q, K, d, w⟩
  · exact Or.inl ⟨a, by rw [g.2.1 64 (by decide)]; exact b⟩
  · exact Or.inr ⟨x, a, by rw [g.2.1 64 (by decide)]; exact b, S, T, Q, K, d, Scn_ag (vwM_ag hk g.2.2) w⟩
theorem Tap_hld {t m m' : OV} (g : Hld m m') (r : Tap t m) : Tap t m' := by
  obtain ⟨L, a, b, c, d⟩ := r
  exact ⟨L, a, b, g.1.1.trans c, fun i hi => by rw [g.2.1 40 (by decide)]; exact d i hi⟩
/-- rules alike but for what a run leaves on their stacks -/
def PrEq (pr pr' : Nat → OV) : Prop := ∀ r, ∃ f, pr' r = sl (pr r) 5 f
theorem PrEq_refl (pr : Nat → OV) : PrEq pr pr := fun r => ⟨_, (sl_self (pr r) 5).symm⟩
theorem PrEq_up {pr : Nat → OV} (i : Nat) (f : Nat → Int64) : PrEq pr (va_up pr i (sl (pr i) 5 f)) := fun r => by
  unfold va_up
  by_cases e : r = i
  · exact ⟨f, by rw [if_pos e, e]⟩
  · exact ⟨_, by rw [if_neg e]; exact (sl_self (pr r) 5).symm⟩
theorem PrEq_trans {a b c : Nat → OV} (h : PrEq a b) (g : PrEq b c) : PrEq a c := fun r => by
  obtain ⟨f, e⟩ := h r
  obtain ⟨f', e'⟩ := g r
  exact ⟨f', by rw [e', e, sl_sl]⟩
theorem Rls_pr {n : Nat} {t m : OV} {pr pr' : Nat → OV} (q : PrEq pr pr') (r : Rls n t pr m) : Rls n t pr' m := by
  obtain ⟨a, b, c, d⟩ := r
  refine ⟨a, b, c, fun r hr => ?_⟩
  obtain ⟨f, e⟩ := q r
  rw [e]
  exact d r hr
theorem Sim_keep {t c h s m m' : OV} {pp pr pr' : Nat → OV} {n : Nat} {im : Nat → Option IMG} (q : PrEq pr pr') (ag : AG m m') (g : Hld m m') (r : Sim t c h s pp pr n im m) : Sim t c h s pp pr' n im m' := by
  obtain ⟨⟨S, T, Q, K, d, w⟩, b, r3, ⟨e1, e2⟩, i⟩ := r
  exact ⟨⟨S, T, Q, K, d, Scn_ag ag w⟩, Tap_hld g b, Rls_pr q (Rls_hld g r3), ⟨g.1.2.2.1.trans e1, g.1.2.2.2.trans e2⟩, Ims_hld g i⟩
theorem Sim_pr {t c h s m : OV} {pp pr pr' : Nat → OV} {n : Nat} {im : Nat → Option IMG} (q : PrEq pr pr') (r : Sim t c h s pp pr n im m) : Sim t c h s pp pr' n im m := Sim_keep q (AG_refl m) (Hld_refl m) r
/-- the rule in force -/
def rhoS (c : OV) (pr : Nat → OV) : Option OV := if c.1 1 = -1 then none else some (pr (c.1 1).toNatClampNeg)
theorem RuR_of {n : Nat} {t c m : OV} {pr : Nat → OV} (f : Fce n c m) (r : Rls n t pr m) : RuR (rhoS c pr) m := by
  obtain ⟨a, b⟩ := f
  unfold rhoS
  rcases b with b | ⟨i, hi, b⟩
  · rw [if_pos b]
    exact a.trans b
  · have h6 : i < 6 := by have := r.2.1; omega
    rw [b, if_neg (nI_n1 (by omega)), nI_31 (show i < 1000 by omega)]
    exact ⟨(r.2.2.2 i hi).1, i, h6, a.trans b, (r.2.2.2 i hi).2⟩
theorem cp_ruleOf {n i : Nat} {t m : OV} {pr : Nat → OV} (r : Rls n t pr m) (hi : i < n) {post : Option Nat → Prop} (hp : post (some i)) : PX8_ruleOf t pr n (nI i) post := by
  have h6 : i < 6 := by have := r.2.1; omega
  unfold PX8_ruleOf
  rw [r.1, nI_31 (show i < 1000 by omega)]
  have := r.2.1
  exact br_f (nI_pos (by omega)) (br_f (fr_nle hi (by omega)) ⟨vp_in_q h6 (by omega), hi, hp⟩)
theorem cp_ruleNo {t : OV} {n : Nat} {pr : Nat → OV} {post : Option Nat → Prop} (hp : post none) : PX8_ruleOf t pr n (-1) post := by
  unfold PX8_ruleOf
  exact br_t (by decide) hp
/-- a rule in the pool, or none -/
def rhoO (pr : Nat → OV) (r : Option Nat) : Option OV := r.map pr
theorem cp_ruleInForce {n : Nat} {t c m : OV} {pr : Nat → OV} (f : Fce n c m) (r : Rls n t pr m) {post : Option Nat → Prop} (hp : ∀ o, (∀ i, o = some i → i < n) → rhoO pr o = rhoS c pr → post o) : PX8_ruleInForce t c pr n post := by
  unfold PX8_ruleInForce
  obtain ⟨a, b⟩ := f
  rcases b with b | ⟨i, hi, b⟩
  · rw [b]
    exact cp_ruleNo (hp none (fun i e => by cases e) (by unfold rhoS; rw [if_pos b]; rfl))
  · have h6 : i < 6 := by have := r.2.1; omega
    rw [b]
    exact cp_ruleOf r hi (hp (some i) (fun j e => by cases e; exact hi) (by unfold rhoS; rw [b, if_neg (nI_n1 (by omega)), nI_31 (show i < 1000 by omega)]; rfl))
/-! the stack of a rule doesn't matter -/
theorem look_sl (u : OV) (f : Nat → Int64) (h s : OV) (q S : Nat) : lookS (some (sl u 5 f)) h s q S = lookS (some u) h s q S := by
  unfold lookS
  rw [show (fun t => ratS (some (sl u 5 f)) h s q t) = (fun t => ratS (some u) h s q t) from funext (fun t => rat_sl u f h s q t)]
theorem sk_sl (u : OV) (f : Nat → Int64) (h : OV) (S T q : Nat) (p : OV × Int32) : sk1 (some (sl u 5 f)) h S T q p = sk1 (some u) h S T q p := by
  unfold sk1 lfS
  rw [look_sl]
theorem psN_sl (u : OV) (f : Nat → Int64) (h : OV) (S T n : Nat) (s : OV) : psN (some (sl u 5 f)) h S T n s = psN (some u) h S T n s := itn_congr n (fun i _ x => sk_sl u f h S T i x)
theorem pass_sl (u : OV) (f : Nat → Int64) (h : OV) (S T Q K : Nat) (dr : Prop) (s : OV) : passS (some (sl u 5 f)) h S T Q K dr s = passS (some u) h S T Q K dr s := by
  unfold passS
  rw [psN_sl]
theorem pasN_sl (u : OV) (f : Nat → Int64) (h : OV) (S T Q : Nat) (s : OV) : pasN (some (sl u 5 f)) h S T Q s = pasN (some u) h S T Q s := by
  unfold pasN
  rw [psN_sl]
theorem rho_pr {pr pr' : Nat → OV} (q : PrEq pr pr') (o : Option Nat) : rhoO pr' o = rhoO pr o ∨ ∃ i f, o = some i ∧ pr' i = sl (pr i) 5 f := by
  cases o with
  | none => exact Or.inl rfl
  | some i =>
    obtain ⟨f, e⟩ := q i
    exact Or.inr ⟨i, f, rfl, e⟩
theorem pass_pr {pr pr' : Nat → OV} (q : PrEq pr pr') (o : Option Nat) (h : OV) (S T Q K : Nat) (dr : Prop) (s : OV) : passS (rhoO pr' o) h S T Q K dr s = passS (rhoO pr o) h S T Q K dr s ∧ pasN (rhoO pr' o) h S T Q s = pasN (rhoO pr o) h S T Q s := by
  rcases rho_pr q o with e | ⟨i, f, rfl, e⟩
  · rw [e]
    exact ⟨rfl, rfl⟩
  · show passS (some (pr' i)) h S T Q K dr s = passS (some (pr i)) h S T Q K dr s ∧ pasN (some (pr' i)) h S T Q s = pasN (some (pr i)) h S T Q s
    rw [e]
    exact ⟨pass_sl _ _ _ _ _ _ _ _ _, pasN_sl _ _ _ _ _ _ _⟩
