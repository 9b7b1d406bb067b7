/-! 94: a hill is told -/
def FOk (F : Int32) : Prop := F = 0 ∨ ∃ w k, w ≤ 400 ∧ k < 8 ∧ F = flt w (nI k)
theorem FOk_fst {a b : Int32} (x : FOk a) (y : FOk b) : FOk (fst0 a b) := by
  unfold fst0
  split
  · exact y
  · exact x
theorem FOk_flt {w k : Nat} (hw : w ≤ 400) (hk : k < 8) : FOk (flt w (nI k)) := Or.inr ⟨w, k, hw, hk, rfl⟩
theorem FOk_le {F : Int32} (x : FOk F) : F ≤ 0 ↔ F = 0 := by
  refine ⟨fun h => ?_, fun h => by rw [h]; decide⟩
  rcases x with e | ⟨w, k, hw, hk, e⟩
  · exact e
  · exfalso
    have e2 : flt w (nI k) = nI (1 + 8 * w + k) := by
      unfold flt
      rw [show (8 : Int32) = nI 8 from rfl, nI_mul, show (1 : Int32) = nI 1 from rfl, nI_add, nI_add]
    rw [e, e2] at h
    have := (nI_leI (b := 0) (by omega) (by omega)).mp h
    omega
theorem FOk_nk {B : Nat → Nat} {L p : Nat} (hl : L ≤ 400) (hp : p ≤ L) {lo hi : Int32} : FOk (nk B L p lo hi) := by
  have sp : sk B L p ≤ L := (fw_ok (isBl B) hp).2.1
  unfold nk nmK
  split
  · exact FOk_flt (k := 0) (by omega) (by omega)
  · split
    · exact FOk_flt (k := 1) (by omega) (by omega)
    · exact Or.inl rfl
theorem FOk_hF {B : Nat → Nat} {L k p : Nat} {h : OV} (hl : L ≤ 400) (hp : p ≤ L) : FOk (hF B L k h p) := by
  have h1 := ne_le (B := B) hp
  have h2 := ne_le (B := B) h1
  have h3 := ne_le (B := B) h2
  unfold hF
  split
  · exact FOk_fst (FOk_fst (FOk_nk hl hp) (FOk_nk hl h1)) (FOk_nk hl h2)
  · exact FOk_fst (FOk_fst (FOk_nk hl hp) (FOk_nk hl h1)) (FOk_nk hl h2)
  · exact FOk_nk hl hp
  · exact FOk_nk hl hp
  · exact FOk_fst (FOk_fst (FOk_fst (FOk_nk hl hp) (FOk_nk hl h1)) (FOk_nk hl h2)) (FOk_nk hl h3)
  · exact FOk_nk hl hp
theorem FOk_ClS {B : Nat → Nat} {L i p : Nat} {h : OV} {S T Q K : Nat} {F : Int32} {p' : Nat} {h' : OV} (hL : L ≤ 400) (hp : p ≤ L) (c : ClS B L i p h S T Q K F p' h') : FOk F := by
  have sp : sk B L p ≤ L := (fw_ok (isBl B) hp).2.1
  rcases c with ⟨_, f⟩ | ⟨k, _, _, f⟩ | ⟨k, kk, nf, f, _, rfl⟩
  · rw [f]
    exact FOk_flt (k := 0) (by omega) (by omega)
  · rw [f]
    exact FOk_flt (k := 4) (by omega) (by omega)
  · rw [f]
    exact FOk_hF hL (wz_le (B := B) sp)
theorem FOk_HR {B : Nat → Nat} {L : Nat} (hL : L ≤ 400) {F : Int32} {h' : OV} {S' T' Q' K' : Nat} : ∀ k i p h S T Q K, p ≤ L → HR B L k i p h S T Q K F h' S' T' Q' K' → FOk F
  | 0, _, _, _, _, _, _, _, _, hr => by
    rw [HR] at hr
    exact absurd hr id
  | k + 1, i, p, h, S, T, Q, K, hp, hr => by
    obtain ⟨F1, p1, h1, c, hp1, alt⟩ := HR_s.mp hr
    have sp : sk B L p1 ≤ L := (fw_ok (isBl B) hp1).2.1
    rcases alt with ⟨_, f⟩ | ⟨_, S1, T1, Q1, K1, _, alt⟩
    · rw [f]
      exact FOk_ClS hL hp c
    · rcases alt with ⟨_, f, _⟩ | ⟨_, _, f⟩ | ⟨a, _, hr1⟩
      · exact Or.inl f
      · rw [f]
        exact FOk_flt (k := 0) (by omega) (by omega)
      · exact FOk_HR hL k (i + 1) _ h1 S1 T1 Q1 K1 (by omega) hr1
theorem Tap_TX {t m : OV} (tap : Tap t m) : ∃ B L, TX B L t m ∧ t.1 1 = nI L ∧ m.1 30 = nI L := by
  obtain ⟨L, hL, t1, m1, by0⟩ := tap
  have ex : ∀ i, ∃ b, i < L → b < 256 ∧ t.2.1 0 i = nI b ∧ m.2.1 40 i = sgn8 b := fun i => by
    by_cases hi : i < L
    · obtain ⟨b, hb⟩ := by0 i hi
      exact ⟨b, fun _ => hb⟩
    · exact ⟨0, fun y => absurd y hi⟩
  exact ⟨fun i => Classical.choose (ex i), L, ⟨hL, fun i hi => Classical.choose_spec (ex i) hi⟩, t1, m1⟩
theorem Sim_new {n : Nat} {t t' c c' h h' s s' m m' : OV} {pp pr : Nat → OV} {im : Nat → Option IMG} {I A C L : List Nat} (sim : Sim t c h s pp pr n im m) (f : Fr I A C L m m') (hI : ∀ k ∈ [34, 39, 50], k ∉ I) (hA : ∀ k ∈ [41, 42, 43, 44, 45, 46], k ∉ A) (h63 : 63 ∉ A) (h64 : 64 ∉ A) (t5 : t'.1 5 = t.1 5) (tap : Tap t' m') (w : ∃ S T Q K d, Scn n c' h' s' pp m' S T Q K d) : Sim t' c' h' s' pp pr n im m' := by
  obtain ⟨_, _, rl, mi, ims⟩ := sim
  refine ⟨w, tap, ?_, ⟨(f.1 39 (hI 39 (by decide))).trans mi.1, (f.1 50 (hI 50 (by decide))).trans mi.2⟩, ?_⟩
  · obtain ⟨a, b, c, e⟩ := rl
    exact ⟨t5.trans a, b, (f.1 34 (hI 34 (by decide))).trans c, fun r hr => ⟨(e r hr).1, RuleRel_fr f hA (e r hr).2⟩⟩
  · intro k hk
    rcases ims k hk with ⟨a, b⟩ | ⟨x, a, b, S, T, Q, K, d, w⟩
    · exact Or.inl ⟨a, by rw [f.2.1 64 h64 (by decide)]; exact b⟩
    · exact Or.inr ⟨x, a, by rw [f.2.1 64 h64 (by decide)]; exact b, S, T, Q, K, d, Scn_ag (vwM_ag2 (fun j _ => by rw [f.2.1 63 h63 (by decide)])) w⟩
theorem Tap_0 {t m : OV} (a : t.1 1 = 0) (b : m.1 30 = 0) : Tap t m := ⟨0, by omega, a, b, fun i hi => absurd hi (by omega)⟩
def LHc : List Nat := [2, 3, 4, 5, 6, 7, 8, 9, 10, 11, 12, 13, 14, 17, 18, 19]
def LC9 : List Nat := [0, 1, 2, 3, 4, 5, 6, 7, 8, 9]
/-- the hill told is laid into the reference's own arrays -/
theorem mp_hillLays {m h : OV} {S T Q K : Nat} (hn : HN h m S T Q K) {post : Int32 → OV → Prop} (hq : ∀ m', Fr [57] LHc LC9 [] m m' → m'.1 57 = 0 → m'.2.1 1 9 = 0 → HRel (si h 0 1) S T Q K m' → Told (si h 0 1) T Q m' → SRel (begS (si h 0 1)) S T Q m' → post (nI S) m') : ∃ n, PX9_hill_L21 post n ((0 : Int32)) m := by
  obtain ⟨⟨l1, l2, l3, l4, e4, e9, e11, e16⟩, ⟨c3, c4, c5, c6⟩, ⟨d0, d1, d2, d7⟩, aS, aT, aQ, aK⟩ := hn
  refine fr_rel (fun n i y => PX9_hill_L21 post n (nI i) y) (fun i y => Fr [] [] LC9 [] m y ∧ ∀ j, j < i → y.2.1 1 j = if j < 8 then m.2.1 20 j else 0) 10 m ⟨Fr_refl, fun j hj => absurd hj (by omega)⟩ ?_ ?_
  · rintro n y ⟨fr, a⟩
    unfold PX9_hill_L21
    refine br_t (Int32.le_refl _) ?_
    refine mp_copies (by omega) (by omega) (by decide) (by decide) (by decide) (fun m1 f1 k1 => ?_)
    refine mp_copies (by omega) (by omega) (by decide) (by decide) (by decide) (fun m2 f2 k2 => ?_)
    refine mp_copies (by omega) (by omega) (by decide) (by decide) (by decide) (fun m3 f3 k3 => ?_)
    refine mp_copies (by omega) (by omega) (by decide) (by decide) (by decide) (fun m4 f4 k4 => ?_)
    refine mp_copies (by omega) (by omega) (by decide) (by decide) (by decide) (fun m5 f5 k5 => ?_)
    refine mp_copies (by omega) (by omega) (by decide) (by decide) (by decide) (fun m6 f6 k6 => ?_)
    refine mp_copies (by omega) (by omega) (by decide) (by decide) (by decide) (fun m7 f7 k7 => ?_)
    refine mp_copies (by omega) (by omega) (by decide) (by decide) (by decide) (fun m8 f8 k8 => ?_)
    refine mp_copies (by omega) (by omega) (by decide) (by decide) (by decide) (fun m9 f9 k9 => ?_)
    have g1 : Fr [] LHc LC9 [] m m1 := Fr_trans (Fr_mono fr (by decide) (by decide) (by decide) (by decide)) (Fr_mono f1 (by decide) (by decide) (by decide) (by decide))
    have g2 : Fr [] LHc LC9 [] m m2 := Fr_trans g1 (Fr_mono f2 (by decide) (by decide) (by decide) (by decide))
    have g3 : Fr [] LHc LC9 [] m m3 := Fr_trans g2 (Fr_mono f3 (by decide) (by decide) (by decide) (by decide))
    have g4 : Fr [] LHc LC9 [] m m4 := Fr_trans g3 (Fr_mono f4 (by decide) (by decide) (by decide) (by decide))
    have g5 : Fr [] LHc LC9 [] m m5 := Fr_trans g4 (Fr_mono f5 (by decide) (by decide) (by decide) (by decide))
    have g6 : Fr [] LHc LC9 [] m m6 := Fr_trans g5 (Fr_mono f6 (by decide) (by decide) (by decide) (by decide))
    have g7 : Fr [] LHc LC9 [] m m7 := Fr_trans g6 (Fr_mono f7 (by decide) (by decide) (by decide) (by decide))
    have g8 : Fr [] LHc LC9 [] m m8 := Fr_trans g7 (Fr_mono f8 (by decide) (by decide) (by decide) (by decide))
    have g9 : Fr [] LHc LC9 [] m m9 := Fr_trans g8 (Fr_mono f9 (by decide) (by decide) (by decide) (by decide))
    have b1 : ∀ j, j < 10 → m9.2.1 2 j = m.2.1 21 j := fun j hj => by
      rw [f9.2.1 2 (by decide) (by decide), f8.2.1 2 (by decide) (by decide), f7.2.1 2 (by decide) (by decide), f6.2.1 2 (by decide) (by decide), f5.2.1 2 (by decide) (by decide), f4.2.1 2 (by decide) (by decide), f3.2.1 2 (by decide) (by decide), f2.2.1 2 (by decide) (by decide), k1 j hj, fr.2.1 21 (by decide) (by decide)]
    have b2 : ∀ j, j < 10 → m9.2.1 3 j = m.2.1 22 j := fun j hj => by
      rw [f9.2.1 3 (by decide) (by decide), f8.2.1 3 (by decide) (by decide), f7.2.1 3 (by decide) (by decide), f6.2.1 3 (by decide) (by decide), f5.2.1 3 (by decide) (by decide), f4.2.1 3 (by decide) (by decide), f3.2.1 3 (by decide) (by decide), k2 j hj, g1.2.1 22 (by decide) (by decide)]
    have b3 : ∀ j, j < 10 → m9.2.1 4 j = m.2.1 23 j := fun j hj => by
      rw [f9.2.1 4 (by decide) (by decide), f8.2.1 4 (by decide) (by decide), f7.2.1 4 (by decide) (by decide), f6.2.1 4 (by decide) (by decide), f5.2.1 4 (by decide) (by decide), f4.2.1 4 (by decide) (by decide), k3 j hj, g2.2.1 23 (by decide) (by decide)]
    have b4 : ∀ j, j < 6 → m9.2.1 17 j = m.2.1 24 j := fun j hj => by
      rw [f9.2.1 17 (by decide) (by decide), f8.2.1 17 (by decide) (by decide), f7.2.1 17 (by decide) (by decide), f6.2.1 17 (by decide) (by decide), f5.2.1 17 (by decide) (by decide), k4 j hj, g3.2.1 24 (by decide) (by decide)]
    have b5 : ∀ j, j < 4 → m9.2.1 7 j = m.2.1 25 j := fun j hj => by
      rw [f9.2.1 7 (by decide) (by decide), f8.2.1 7 (by decide) (by decide), f7.2.1 7 (by decide) (by decide), f6.2.1 7 (by decide) (by decide), k5 j hj, g4.2.1 25 (by decide) (by decide)]
    have b6 : ∀ j, j < 4 → m9.2.1 8 j = m.2.1 26 j := fun j hj => by
      rw [f9.2.1 8 (by decide) (by decide), f8.2.1 8 (by decide) (by decide), f7.2.1 8 (by decide) (by decide), k6 j hj, g5.2.1 26 (by decide) (by decide)]
    have b7 : ∀ j, j < 4 → m9.2.1 18 j = m.2.1 27 j := fun j hj => by
      rw [f9.2.1 18 (by decide) (by decide), f8.2.1 18 (by decide) (by decide), k7 j hj, g6.2.1 27 (by decide) (by decide)]
    have b8 : ∀ j, j < 4 → m9.2.1 10 j = m.2.1 28 j := fun j hj => by
      rw [f9.2.1 10 (by decide) (by decide), k8 j hj, g7.2.1 28 (by decide) (by decide)]
    have b9 : ∀ j, j < 8 → m9.2.1 14 j = m.2.1 29 j := fun j hj => by
      rw [k9 j hj, g8.2.1 29 (by decide) (by decide)]
    have s20 : m9.2.1 20 = m.2.1 20 := g9.2.1 20 (by decide) (by decide)
    have s1 : m9.2.1 1 = y.2.1 1 := by
      have z : ∀ {a b : OV} {l : Nat}, Fr [] [l] [] [] a b → b.2.1 1 = a.2.1 1 := fun f => funext (fun j => f.2.2.1 j (by simp))
      rw [z f9, z f8, z f7, z f6, z f5, z f4, z f3, z f2, z f1]
    rintro _ rfl _ rfl _ rfl _ rfl
    have gA : Fr [] LHc LC9 [] m (sa (sa m9 19 (upd (m9.2.1 19) 0 (m9.2.1 20 0))) 19 (upd ((sa m9 19 (upd (m9.2.1 19) 0 (m9.2.1 20 0))).2.1 19) 1 ((sa m9 19 (upd (m9.2.1 19) 0 (m9.2.1 20 0))).2.1 20 7))) := Fr_sa (by decide) (by decide) (Fr_sa (by decide) (by decide) g9)
    have eA : ∀ k, k ≠ 19 → (sa (sa m9 19 (upd (m9.2.1 19) 0 (m9.2.1 20 0))) 19 (upd ((sa m9 19 (upd (m9.2.1 19) 0 (m9.2.1 20 0))).2.1 19) 1 ((sa m9 19 (upd (m9.2.1 19) 0 (m9.2.1 20 0))).2.1 20 7))).2.1 k = m9.2.1 k := fun k hk => by
      rw [sa_ne _ _ hk, sa_ne _ _ hk]
    have n0 : (sa (sa m9 19 (upd (m9.2.1 19) 0 (m9.2.1 20 0))) 19 (upd ((sa m9 19 (upd (m9.2.1 19) 0 (m9.2.1 20 0))).2.1 19) 1 ((sa m9 19 (upd (m9.2.1 19) 0 (m9.2.1 20 0))).2.1 20 7))).2.1 19 0 = h.1 1 := by
      show m9.2.1 20 0 = h.1 1
      rw [s20]
      exact d0
    have n1 : (sa (sa m9 19 (upd (m9.2.1 19) 0 (m9.2.1 20 0))) 19 (upd ((sa m9 19 (upd (m9.2.1 19) 0 (m9.2.1 20 0))).2.1 19) 1 ((sa m9 19 (upd (m9.2.1 19) 0 (m9.2.1 20 0))).2.1 20 7))).2.1 19 1 = h.1 8 := by
      show m9.2.1 20 7 = h.1 8
      rw [s20]
      exact d7
    show PX9_begins (sa (sa m9 19 (upd (m9.2.1 19) 0 (m9.2.1 20 0))) 19 (upd ((sa m9 19 (upd (m9.2.1 19) 0 (m9.2.1 20 0))).2.1 19) 1 ((sa m9 19 (upd (m9.2.1 19) 0 (m9.2.1 20 0))).2.1 20 7))) _
    revert gA eA n0 n1
    generalize sa (sa m9 19 (upd (m9.2.1 19) 0 (m9.2.1 20 0))) 19 (upd ((sa m9 19 (upd (m9.2.1 19) 0 (m9.2.1 20 0))).2.1 19) 1 ((sa m9 19 (upd (m9.2.1 19) 0 (m9.2.1 20 0))).2.1 20 7)) = u
    intro gA eA n0 n1
    have x1 : ∀ j, j < 10 → u.2.1 1 j = if j < 8 then m.2.1 20 j else 0 := fun j hj => by rw [eA 1 (by decide), s1]; exact a j hj
    have hr : HRel (si h 0 1) S T Q K u := by
      refine ⟨⟨(x1 1 (by omega)).trans d1, (x1 2 (by omega)).trans d2, (x1 3 (by omega)).trans c3, (x1 4 (by omega)).trans c4, (x1 5 (by omega)).trans c5, (x1 6 (by omega)).trans c6⟩, fun t ht => ?_, fun q hq => ?_, fun k hk => ?_⟩
      · rw [eA 2 (by decide), eA 3 (by decide), eA 4 (by decide), b1 t (by omega), b2 t (by omega), b3 t (by omega)]
        exact aS t ht
      · rw [eA 7 (by decide), eA 8 (by decide), eA 10 (by decide), b5 q (by omega), b6 q (by omega), b8 q (by omega)]
        exact ⟨(aQ q hq).1, (aQ q hq).2.1, (aQ q hq).2.2.2⟩
      · rw [eA 14 (by decide), b9 k (by omega)]
        exact aK k hk
    have td : Told (si h 0 1) T Q u := fun _ => by
      refine ⟨fun k hk => ?_, fun q hq => ?_, n0, n1⟩
      · rw [eA 17 (by decide), b4 k (by omega)]
        exact aT k hk
      · rw [eA 18 (by decide), b7 q (by omega)]
        exact (aQ q hq).2.2.1
    refine mp_begins ⟨l1, l2, l3, l4⟩ hr td rfl (fun v f sr => ?_)
    rintro _ rfl
    have hv : HRel (si h 0 1) S T Q K v := by
      unfold HRel at hr ⊢
      rw [f.2.1 2 (by decide) (by decide), f.2.1 3 (by decide) (by decide), f.2.1 4 (by decide) (by decide), f.2.1 7 (by decide) (by decide), f.2.1 8 (by decide) (by decide), f.2.1 10 (by decide) (by decide), f.2.1 14 (by decide) (by decide), f.2.2.1 1 (by decide), f.2.2.1 2 (by decide), f.2.2.1 3 (by decide), f.2.2.1 4 (by decide), f.2.2.1 5 (by decide), f.2.2.1 6 (by decide)]
      exact hr
    have tv : Told (si h 0 1) T Q v := by
      unfold Told at td ⊢
      rw [f.2.1 17 (by decide) (by decide), f.2.1 18 (by decide) (by decide), f.2.1 19 (by decide) (by decide)]
      exact td
    have e3 : (si v 57 0).2.1 1 ((3 : Int32)).toNatClampNeg = nI S := hv.1.2.2.1
    rw [e3]
    refine hq _ (Fr_si (by decide) (Fr_trans (Fr_mono gA (by decide) (by decide) (by decide) (by decide)) (Fr_mono f (by decide) (by decide) (by decide) (by decide)))) rfl ?_ hv tv sr
    show v.2.1 1 9 = 0
    rw [f.2.2.1 9 (by decide)]
    exact x1 9 (by omega)
  · rintro n i y hi ⟨fr, a⟩ next
    have hC : i ∈ LC9 := by
      have : i = 0 ∨ i = 1 ∨ i = 2 ∨ i = 3 ∨ i = 4 ∨ i = 5 ∨ i = 6 ∨ i = 7 ∨ i = 8 ∨ i = 9 := by omega
      rcases this with rfl | rfl | rfl | rfl | rfl | rfl | rfl | rfl | rfl | rfl <;> decide
    unfold PX9_hill_L21
    rw [nI_31 (show i < 1000 by omega)]
    refine br_f (fr_nle (b := 10) hi (by omega)) ?_
    by_cases g8 : 8 ≤ i
    · refine br_t (fr_le (a := 8) g8 (by omega)) ⟨vp_in_q (by omega) (by omega), ?_⟩
      rintro _ rfl _ rfl
      rw [nI_1]
      refine next _ ⟨Fr_sc hC fr, fun j hj => ?_⟩
      show upd (y.2.1 1) i 0 j = _
      by_cases g : j = i
      · rw [g, upd_eq, if_neg (by omega)]
      · rw [upd_ne _ _ g]
        exact a j (by omega)
    · refine br_f (fr_nle (b := 8) (by omega) (by omega)) ⟨vp_in_q (by omega) (by omega), ?_⟩
      rintro _ rfl
      refine ⟨vp_in_q (by omega) (by omega), ?_⟩
      rintro _ rfl _ rfl
      rw [nI_1]
      refine next _ ⟨Fr_sc hC fr, fun j hj => ?_⟩
      show upd (y.2.1 1) i (y.2.1 20 i) j = _
      by_cases g : j = i
      · rw [g, upd_eq, if_pos (by omega), fr.2.1 20 (by decide) (by decide)]
      · rw [upd_ne _ _ g]
        exact a j (by omega)
theorem sim_hill {n : Nat} {t c h s m g r : OV} {pp pr : Nat → OV} {im : Nat → Option IMG} (sim : Sim t c h s pp pr n im m) : PX8_hill t c s g r (fun a b t' c' s' _ h' => PX9_hill m (fun a' m' => a = a' ∧ Sim t' c' (if b = true then h' else h) s' pp pr n im m')) := by
  have sim0 := sim
  obtain ⟨w, tap, rl, mi, ims⟩ := sim
  obtain ⟨B, L, tx, t1, m1⟩ := Tap_TX tap
  have l4 := tx.1
  unfold PX8_hill
  rw [t1]
  refine cp_hread tx (fun F h1 S T Q K hr r1 h2 eh => ?_)
  rintro _ rfl
  have fok := FOk_HR l4 41 0 0 v0X0 0 0 0 0 (Nat.zero_le L) hr
  refine ⟨fun f0 => ?_, fun f0 => ?_⟩
  · rw [eh f0]
    have hc0 : HC v0X0 0 0 0 0 := ⟨by omega, by omega, by omega, by omega, rfl, rfl, rfl, rfl⟩
    have vi0 : VI 0 v0X0 0 0 := ⟨fun t ht => absurd ht (by omega), fun t ht => absurd ht (by omega), fun y => absurd y (by omega), Or.inl rfl, fun k hk _ => by
      have : k = 0 ∨ k = 1 ∨ k = 2 ∨ k = 3 := by omega
      rcases this with rfl | rfl | rfl | rfl <;> rfl⟩
    obtain ⟨hc, j, hj, vi⟩ := HR_end l4 f0 41 0 0 v0X0 0 0 0 0 (Nat.zero_le L) hc0 vi0 hr
    have hok : Hok (si h1 0 1) S T Q K := ⟨⟨hc.1, hc.2.1, hc.2.2.1, hc.2.2.2.1⟩, hc.2.2.2.2.1, hc.2.2.2.2.2.1, hc.2.2.2.2.2.2.1, hc.2.2.2.2.2.2.2⟩
    have v3 := vi.2.2.1 hj
    have hv : Hv (si h1 0 1) S Q := ⟨vi.1, vi.2.1, v3.1, v3.2.1, v3.2.2.1, vi.2.2.2.1, Or.inr ⟨rfl, v3.2.2.2⟩⟩
    unfold PX5_begin
    refine cp_begin (fun s1 se => ?_)
    rintro _ rfl _ rfl
    unfold PX9_hill
    refine mp_readsAll tx m1 hr (fun ma fa a30 a32 hn => ?_)
    refine br_t (by rw [a32, f0]; decide) ?_
    refine mp_hillLays (hn f0) (fun mb fb b57 b9 hrl td sr => ?_)
    refine ⟨hc.2.2.2.2.1, ?_⟩
    rw [if_pos rfl]
    have fab : Fr [30, 31, 32, 35, 36, 37, 57] (LH ++ LHc) LC9 [] m mb := Fr_trans (Fr_mono fa (by decide) (by decide) (by decide) (by decide)) (Fr_mono fb (by decide) (by decide) (by decide) (by decide))
    refine Sim_new sim0 fab (by decide) (by decide) (by decide) (by decide) rfl (Tap_0 rfl ((fb.1 30 (by decide)).trans a30)) ⟨S, T, Q, K, 0, hok, hv, hrl, Sok_eq hc.1 se (Sok_beg hv), by omega, SRel_eq hc.1 hc.2.1 hc.2.2.1 se sr, td, ?_, ?_, ?_, ?_⟩
    · exact ⟨0, rfl, by omega, b9, fun k hk => absurd hk (by omega)⟩
    · obtain ⟨S0, T0, Q0, K0, d0, w⟩ := w
      have fce := w.2.2.2.2.2.2.2.2.1
      exact ⟨(fab.2.2.1 11 (by decide)).trans fce.1, fce.2⟩
    · obtain ⟨S0, T0, Q0, K0, d0, w⟩ := w
      have drw := w.2.2.2.2.2.2.2.2.2.1
      exact ⟨(fab.2.2.1 10 (by decide)).trans drw.1, drw.2⟩
    · obtain ⟨S0, T0, Q0, K0, d0, w⟩ := w
      obtain ⟨a, p, e6, e5, ha, hp, _⟩ := w.2.2.2.2.2.2.2.2.2.2
      exact ⟨0, p, rfl, e5, by omega, hp, b57, fun i hi => absurd hi (by omega)⟩
  · unfold PX9_hill
    refine mp_readsAll tx m1 hr (fun ma fa a30 a32 hn => ?_)
    have nle : ¬ ma.1 32 ≤ 0 := by rw [a32]; exact fun y => f0 ((FOk_le fok).mp y)
    refine br_f nle ⟨by rw [a32], ?_⟩
    rw [if_neg (by decide)]
    obtain ⟨S0, T0, Q0, K0, d0, w⟩ := w
    exact Sim_new sim0 fa (by decide) (by decide) (by decide) (by decide) rfl (Tap_0 rfl a30) ⟨S0, T0, Q0, K0, d0, Scn_ag (AG_fr fa (by decide) (by decide) rfl) w⟩
