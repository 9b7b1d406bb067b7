/-! 56: the hill, the state and the rule in the reference; words; ratings -/
def HRel (h : OV) (S T Q K : Nat) (m : OV) : Prop :=
  (m.2.1 1 1 = h.1 2 ∧ m.2.1 1 2 = h.1 3 ∧ m.2.1 1 3 = nI S ∧ m.2.1 1 4 = nI T ∧ m.2.1 1 5 = nI Q ∧ m.2.1 1 6 = nI K) ∧ (∀ t, t < S → m.2.1 2 t = h.2.1 5 t ∧ m.2.1 3 t = h.2.1 6 t ∧ m.2.1 4 t = h.2.1 7 t) ∧ (∀ q, q < Q → m.2.1 7 q = h.2.1 12 q ∧ m.2.1 8 q = h.2.1 13 q ∧ m.2.1 10 q = h.2.1 15 q) ∧ ∀ k, k < K → m.2.1 14 k = h.2.1 17 k
def SRel (s : OV) (S T Q : Nat) (m : OV) : Prop := (m.2.1 1 0 = s.1 1 ∧ m.2.1 1 7 = s.1 2 ∧ m.2.1 1 8 = s.1 0) ∧ (∀ t, t < S → m.2.1 5 t = s.2.1 3 t) ∧ (∀ k, k < T → m.2.1 6 k = s.2.1 4 k) ∧ ∀ q, q < Q → m.2.1 9 q = s.2.1 5 q ∧ m.2.1 11 q = s.2.1 6 q ∧ m.2.1 12 q = s.2.1 7 q ∧ m.2.1 13 q = s.2.1 8 q
/-- bounds of a hill's numbers -/
def Hv (h : OV) (S Q : Nat) : Prop := (∀ t, t < S → isIx (h.2.1 5 t) 100 ∧ isIx (h.2.1 6 t) 21 ∧ isIx (h.2.1 7 t) 10) ∧ (∀ q, q < Q → isIx (h.2.1 12 q) 10 ∧ isIx (h.2.1 15 q) 3) ∧ isIx (h.1 1) 100 ∧ isIx (h.1 2) 51 ∧ isIx (h.1 3) 100 ∧ (h.1 8 = -1 ∨ isIx (h.1 8) S) ∧ ((h.1 0 = 0 ∧ h.1 2 = 0) ∨ (h.1 0 = 1 ∧ 0 < h.1 2))
/-- a state's bounds; d its day, e above the days on which it was found -/
def Sok (s : OV) (S Q d e : Nat) : Prop := s.1 0 = nI d ∧ (s.1 2 = -1 ∨ isIx (s.1 2) S) ∧ isIx (s.1 1) 100 ∧ (∀ t, t < S → isIx (s.2.1 3 t) 100) ∧ (∀ q, q < 4 → isIx (s.2.1 7 q) 100 ∧ (s.2.1 6 q = -1 ∨ isIx (s.2.1 6 q) e)) ∧ ∀ q, Q ≤ q → q < 4 → s.2.1 6 q = -1 ∧ s.2.1 8 q = 0
/-- the rule in force in the reference -/
def RuR (ρ : Option OV) (m : OV) : Prop := match ρ with
  | none => m.2.1 1 11 = -1
  | some u => RuleOk u ∧ ∃ r, r < 6 ∧ m.2.1 1 11 = nI r ∧ RuleRel u r m
theorem RuleRel_fr {u : OV} {r : Nat} {m m' : OV} {I A C L : List Nat} (f : Fr I A C L m m') (hA : ∀ k ∈ [41, 42, 43, 44, 45, 46], k ∉ A) (h : RuleRel u r m) : RuleRel u r m' := by
  have g : ∀ k ∈ [41, 42, 43, 44, 45, 46], m'.2.1 k = m.2.1 k := fun k hk => f.2.1 k (hA k hk) (fun e => by rw [e] at hk; exact absurd hk (by decide))
  have g1 := g 41 (by decide)
  have g2 := g 42 (by decide)
  have g3 := g 43 (by decide)
  have g4 := g 44 (by decide)
  have g5 := g 45 (by decide)
  have g6 := g 46 (by decide)
  refine ⟨by rw [g3]; exact h.1, fun i hi => ?_⟩
  obtain ⟨a, b, c, d⟩ := h.2 i hi
  rw [g4, g5, g6]
  refine ⟨a, b, c, fun j hj => ?_⟩
  rw [g1, g2]
  exact d j hj
theorem RuR_fr {ρ : Option OV} {m m' : OV} {I A C L : List Nat} (f : Fr I A C L m m') (hA : ∀ k ∈ [41, 42, 43, 44, 45, 46], k ∉ A) (hC : 11 ∉ C) (h : RuR ρ m) : RuR ρ m' := by
  cases ρ with
  | none => exact (f.2.2.1 11 hC).trans h
  | some u =>
    obtain ⟨ok, r, hr, e, rel⟩ := h
    exact ⟨ok, r, hr, (f.2.2.1 11 hC).trans e, RuleRel_fr f hA rel⟩
theorem HRel_fr {h : OV} {S T Q K : Nat} {m m' : OV} {I A C L : List Nat} (f : Fr I A C L m m') (hA : ∀ k ∈ [2, 3, 4, 7, 8, 10, 14], k ∉ A) (hC : ∀ k ∈ [1, 2, 3, 4, 5, 6], k ∉ C) (r : HRel h S T Q K m) : HRel h S T Q K m' := by
  have g : ∀ k ∈ [2, 3, 4, 7, 8, 10, 14], m'.2.1 k = m.2.1 k := fun k hk => f.2.1 k (hA k hk) (fun e => by rw [e] at hk; exact absurd hk (by decide))
  have c : ∀ k ∈ [1, 2, 3, 4, 5, 6], m'.2.1 1 k = m.2.1 1 k := fun k hk => f.2.2.1 k (hC k hk)
  unfold HRel at r ⊢
  rw [g 2 (by decide), g 3 (by decide), g 4 (by decide), g 7 (by decide), g 8 (by decide), g 10 (by decide), g 14 (by decide), c 1 (by decide), c 2 (by decide), c 3 (by decide), c 4 (by decide), c 5 (by decide), c 6 (by decide)]
  exact r
theorem SRel_fr {s : OV} {S T Q : Nat} {m m' : OV} {I A C L : List Nat} (f : Fr I A C L m m') (hA : ∀ k ∈ [5, 6, 9, 11, 12, 13], k ∉ A) (hC : ∀ k ∈ [0, 7, 8], k ∉ C) (r : SRel s S T Q m) : SRel s S T Q m' := by
  have g : ∀ k ∈ [5, 6, 9, 11, 12, 13], m'.2.1 k = m.2.1 k := fun k hk => f.2.1 k (hA k hk) (fun e => by rw [e] at hk; exact absurd hk (by decide))
  have c : ∀ k ∈ [0, 7, 8], m'.2.1 1 k = m.2.1 1 k := fun k hk => f.2.2.1 k (hC k hk)
  unfold SRel at r ⊢
  rw [g 5 (by decide), g 6 (by decide), g 9 (by decide), g 11 (by decide), g 12 (by decide), g 13 (by decide), c 0 (by decide), c 7 (by decide), c 8 (by decide)]
  exact r
/-- how far apart -/
def absS (a b : Int32) : Int32 := if 0 ≤ a - b then a - b else 0 - (a - b)
theorem abs_all : ∀ x, x < 100 → ∀ y, y < 100 → (nI x ≤ nI y → nI y - nI x = absS (nI x) (nI y)) ∧ (¬ nI x ≤ nI y → nI x - nI y = absS (nI x) (nI y)) := by decide +kernel
theorem mp_apart {a b : Int32} (ha : isIx a 100) (hb : isIx b 100) {post : Int32 → Prop} (hp : post (absS a b)) : PX9_apart a b post := by
  obtain ⟨x, hx, rfl⟩ := ha
  obtain ⟨y, hy, rfl⟩ := hb
  have e := abs_all x hx y hy
  unfold PX9_apart
  exact ⟨fun c => by rw [e.1 c]; exact hp, fun c => by rw [e.2 c]; exact hp⟩
def askS (h s : OV) (q t : Nat) : Nat → Int64 := fun k => match k with
  | 0 => (nI q).toInt64
  | 1 => (nI t).toInt64
  | 2 => (h.2.1 5 t).toInt64
  | 3 => (h.2.1 6 t).toInt64
  | 4 => (h.2.1 7 t).toInt64
  | 5 => (s.2.1 3 t).toInt64
  | 6 => (s.1 1).toInt64
  | 7 => (absS (h.2.1 5 t) (s.1 1)).toInt64
  | 8 => (minS h s q t).toInt64
  | 9 => (h.2.1 12 q).toInt64
  | 10 => (s.2.1 7 q).toInt64
  | 11 => (bt1 (s.2.1 8 q) t).toInt64
  | 12 => (bitsS (fbS (s.2.1 6) 4)).toInt64
  | 13 => (s.1 0).toInt64
  | _ => 0
/-- the greater, the sooner -/
def ratS (ρ : Option OV) (h s : OV) (q t : Nat) : Int64 := match ρ with
  | none => (-(absS (h.2.1 5 t) (s.1 1))).toInt64
  | some u => sumV u (askS h s q t)
def SWd (h s : OV) (q : Nat) (g : Nat → Int64) : Prop := g 0 = (nI q).toInt64 ∧ g 6 = (s.1 1).toInt64 ∧ g 9 = (h.2.1 12 q).toInt64 ∧ g 10 = (s.2.1 7 q).toInt64 ∧ g 12 = (bitsS (fbS (s.2.1 6) 4)).toInt64 ∧ g 13 = (s.1 0).toInt64
theorem cp_setSeekerWords {W h s : OV} {q : Nat} (hq : q < 4) {post : OV → Prop} (hp : ∀ g, SWd h s q g → post (sl W 0 g)) : PX7_setSeekerWords W h s (nI q) post := by
  unfold PX7_setSeekerWords
  rw [nI_31 (show q < 1000 by omega)]
  rintro _ rfl _ rfl _ rfl _ rfl
  refine ⟨vp_in_q hq (by omega), ?_⟩
  rintro _ rfl _ rfl
  refine ⟨vp_in_q hq (by omega), ?_⟩
  rintro _ rfl _ rfl
  refine cp_finders ?_
  rintro _ rfl _ rfl _ rfl _ rfl
  simp only [sl_at, sl_sl]
  exact hp _ ⟨rfl, rfl, rfl, rfl, rfl, rfl⟩
theorem cp_rate_N {W h s : OV} {q t : Nat} (ht : t < 10) {post : Int64 → Prop} (hp : post (ratS none h s q t)) : PX7_rate_N W h s (nI q) (nI t) post := by
  unfold PX7_rate_N
  rw [nI_31 (show t < 1000 by omega)]
  refine ⟨vp_in_q ht (by omega), ?_⟩
  rintro _ rfl
  exact hp
theorem k14 {p : Nat → Prop} (h0 : p 0) (h1 : p 1) (h2 : p 2) (h3 : p 3) (h4 : p 4) (h5 : p 5) (h6 : p 6) (h7 : p 7) (h8 : p 8) (h9 : p 9) (h10 : p 10) (h11 : p 11) (h12 : p 12) (h13 : p 13) : ∀ k, k < 14 → p k
  | 0, _ => h0
  | 1, _ => h1
  | 2, _ => h2
  | 3, _ => h3
  | 4, _ => h4
  | 5, _ => h5
  | 6, _ => h6
  | 7, _ => h7
  | 8, _ => h8
  | 9, _ => h9
  | 10, _ => h10
  | 11, _ => h11
  | 12, _ => h12
  | 13, _ => h13
  | k + 14, h => absurd h (by omega)
theorem cp_rate_R {W h u s : OV} {q t : Nat} (hq : q < 4) (ht : t < 10) (sw : SWd h s q (W.2.2 0)) (ok : RuleOk u) {post : Int64 → OV → OV → Prop} (hp : ∀ g f, SWd h s q g → post (ratS (some u) h s q t) (sl W 0 g) (sl u 5 f)) : PX7_rate_R W h u s (nI q) (nI t) post := by
  unfold PX7_rate_R
  rw [nI_31 (show t < 1000 by omega), nI_31 (show q < 1000 by omega)]
  refine ⟨vp_in_q ht (by omega), ?_⟩
  rintro _ rfl _ rfl _ rfl
  refine ⟨vp_in_q ht (by omega), ?_⟩
  rintro _ rfl _ rfl
  refine ⟨vp_in_q ht (by omega), ?_⟩
  rintro _ rfl _ rfl
  refine ⟨vp_in_q ht (by omega), ?_⟩
  rintro _ rfl _ rfl
  refine ⟨vp_in_q ht (by omega), ?_⟩
  rintro _ rfl _ rfl _ rfl _ rfl
  refine cp_minutes hq ht ?_
  rintro _ rfl _ rfl
  refine ⟨vp_in_q hq (by omega), ?_⟩
  rintro _ rfl _ rfl
  simp only [sl_at, sl_sl]
  obtain ⟨w0, w6, w9, w10, w12, w13⟩ := sw
  refine cp_sum (w := askS h s q t) ok ?_ (fun f => hp _ f ⟨w0, w6, w9, w10, w12, w13⟩)
  exact k14 w0 rfl rfl rfl rfl rfl w6 rfl rfl w9 w10 rfl w12 w13
theorem mp_sumOf {m h s : OV} {S T Q K d e q t : Nat} {ρ : Option OV} (lim : Lim S T Q K) (hv : Hv h S Q) (so : Sok s S Q d e) (hr : HRel h S T Q K m) (sr : SRel s S T Q m) (ru : RuR ρ m) (hq : q < Q) (ht : t < S) {post : Int64 → OV → Prop} (hp : ∀ m', Fr [] [] [] [48, 49] m m' → post (ratS ρ h s q t) m') : PX9_sumOf m (nI q) (nI t) post := by
  obtain ⟨l1, l2, l3, l4⟩ := lim
  obtain ⟨⟨h1, h2, h3, h4, h5, h6⟩, hs, hk, hw⟩ := hr
  obtain ⟨⟨s0, s7, s8⟩, st, sk, sq⟩ := sr
  obtain ⟨a2, a3, a4⟩ := hs t ht
  obtain ⟨b7, b8, b10⟩ := hk q hq
  obtain ⟨c9, c11, c12, c13⟩ := sq q hq
  have c5 := st t ht
  have i0 : m.2.1 1 ((0 : Int32)).toNatClampNeg = s.1 1 := s0
  have bf : isIx (m.2.1 2 t) 100 := by rw [a2]; exact (hv.1 t ht).1
  have bg : isIx (s.1 1) 100 := so.2.2.1
  unfold PX9_sumOf
  rw [nI_31 (show t < 1000 by omega), nI_31 (show q < 1000 by omega)]
  cases ρ with
  | none =>
    refine br_nt ru ⟨vp_in_q (by omega) (by omega), ?_⟩
    rw [i0]
    refine mp_apart bf bg ?_
    rw [a2]
    exact hp m Fr_refl
  | some u =>
    obtain ⟨ok, r, hr6, e11, rel⟩ := ru
    have ne : ¬ m.2.1 1 11 = -1 := by rw [e11]; exact fun e => absurd ((isIx_iff (n := 6) (by omega)).mp ⟨r, hr6, e.symm⟩).1 (by decide)
    refine br_nf ne ?_
    rintro _ rfl _ rfl _ rfl _ rfl
    refine ⟨vp_in_q (by omega) (by omega), ?_⟩
    rintro _ rfl _ rfl
    refine ⟨vp_in_q (by omega) (by omega), ?_⟩
    rintro _ rfl _ rfl
    refine ⟨vp_in_q (by omega) (by omega), ?_⟩
    rintro _ rfl _ rfl
    refine ⟨vp_in_q (by omega) (by omega), ?_⟩
    rintro _ rfl _ rfl _ rfl _ rfl
    refine ⟨vp_in_q (by omega) (by omega), mp_apart bf (by rw [show (0 : Int32).toNatClampNeg = 0 from rfl]; exact s0 ▸ bg) ?_⟩
    rintro _ rfl _ rfl
    refine mp_minutes (h := h) (s := s) (by omega) (by omega) ?_ ?_ ?_ ?_
    · exact a3
    · exact b7
    · exact c5
    rintro _ rfl _ rfl
    refine ⟨vp_in_q (by omega) (by omega), ?_⟩
    rintro _ rfl _ rfl
    refine ⟨vp_in_q (by omega) (by omega), ?_⟩
    rintro _ rfl _ rfl
    refine ⟨vp_in_q (by omega) (by omega), mp_has ?_⟩
    simp only [sl_at, sl_sl]
    have last : ∀ x, x = (bt1 (s.2.1 8 q) t).toInt64 → ∀ g, (∀ k, k < 11 → g k = askS h s q t k) → PX9_sumOf_b200 post 11 x (sl m 48 g) := by
      intro x ex g hg
      unfold PX9_sumOf_b200
      refine ⟨vp_in_q (a := 11) (by omega) (by omega), ?_⟩
      rintro _ rfl
      refine mp_foundBy (m := sl (sl m 48 g) 48 _) l3 h5 ?_
      refine mp_bits ?_
      rintro _ rfl _ rfl _ rfl _ rfl
      simp only [sl_at, sl_sl]
      have e12 : fbS (m.2.1 11) Q = fbS (s.2.1 6) 4 := by
        rw [fbS_4 l3 (fun q a b => (so.2.2.2.2.2 q a b).1)]
        exact fbS_congr (fun q hq => (sq q hq).2.1)
      refine mp_wanted (u := u) (w := askS h s q t) (m := sl m 48 _) ok hr6 e11 rel ?_ (fun f => hp _ ?_)
      · refine k14 (hg 0 (by omega)) (hg 1 (by omega)) (hg 2 (by omega)) (hg 3 (by omega)) (hg 4 (by omega)) (hg 5 (by omega)) (hg 6 (by omega)) (hg 7 (by omega)) (hg 8 (by omega)) (hg 9 (by omega)) (hg 10 (by omega)) ?_ ?_ ?_
        · exact ex
        · exact congrArg (fun z => (bitsS z).toInt64) e12
        · exact congrArg Int32.toInt64 s8
      · exact Fr_sl (by decide) (Fr_sl (by decide) Fr_refl)
    have base : ∀ g : Nat → Int64, g 0 = (nI q).toInt64 → g 1 = (nI t).toInt64 → g 2 = (m.2.1 2 t).toInt64 → g 3 = (m.2.1 3 t).toInt64 → g 4 = (m.2.1 4 t).toInt64 → g 5 = (m.2.1 5 t).toInt64 → g 6 = (m.2.1 1 0).toInt64 → g 7 = (absS (m.2.1 2 t) (m.2.1 1 0)).toInt64 → g 8 = (minS h s q t).toInt64 → g 9 = (m.2.1 7 q).toInt64 → g 10 = (m.2.1 12 q).toInt64 → ∀ k, k < 11 → g k = askS h s q t k := by
      intro g g0 g1 g2 g3 g4 g5 g6 g7 g8 g9 g10 k hk
      rw [a2] at g2 g7
      rw [s0] at g6 g7
      rw [a3] at g3
      rw [a4] at g4
      rw [c5] at g5
      rw [b7] at g9
      rw [c12] at g10
      exact k14 (p := fun k => k < 11 → g k = askS h s q t k) (fun _ => g0) (fun _ => g1) (fun _ => g2) (fun _ => g3) (fun _ => g4) (fun _ => g5) (fun _ => g6) (fun _ => g7) (fun _ => g8) (fun _ => g9) (fun _ => g10) (fun h => absurd h (by omega)) (fun h => absurd h (by omega)) (fun h => absurd h (by omega)) k (by omega) hk
    rw [show (sl m 48 _).2.1 13 q = m.2.1 13 q from rfl, c13]
    rcases bt1_01 (s.2.1 8 q) t with e | e
    · rw [e]
      exact br_t rfl (last _ (by rw [e]; rfl) _ (base _ rfl rfl rfl rfl rfl rfl rfl rfl rfl rfl rfl))
    · rw [e]
      exact br_f (by decide) (last _ (by rw [e]; rfl) _ (base _ rfl rfl rfl rfl rfl rfl rfl rfl rfl rfl rfl))
