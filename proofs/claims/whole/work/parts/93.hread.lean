/-! 93: a hill's text, by the reference; the bounds of what is told -/
theorem mp_goesOn_no {t m0 m : OV} {B : Nat → Nat} {L p : Nat} {F : Int32} (tx : TX B L t m0) (nz : ¬ F = 0) (r : Rst B L m0 m F p) {post : Int32 → OV → Prop} (hq : ∀ m', Fr [31] [] [] [] m m' → m'.1 32 = F → post 0 m') : PX9_goesOn m post := by
  obtain ⟨fr, e32, _, h30, q, hq1, hq2⟩ := r
  unfold PX9_goesOn
  refine mp_blanks (TX_fr fr (by decide) tx) hq1 ⟨h30, hq2, e32⟩ (fun m1 f1 r1 => ?_)
  refine br_nf (by rw [r1.2.2]; exact nz) ?_
  unfold PX9_goesOn_b40
  refine br_nf (by rw [r1.2.2]; exact nz) ?_
  unfold PX9_goesOn_b63
  rintro _ rfl _ rfl
  exact hq _ (Fr_si (by decide) f1) r1.2.2
theorem mp_goesOn {t m0 m : OV} {B : Nat → Nat} {L p : Nat} (tx : TX B L t m0) (hp : p ≤ L) (r : Rst B L m0 m 0 p) {post : Int32 → OV → Prop} (he : ¬ sk B L p < L → ∀ m', Fr [31] [] [] [] m m' → post 0 m') (hs : sk B L p < L → B (sk B L p) = 59 → ∀ m', Fr [31] [] [] [] m m' → RM m' L (sk B L p + 1) 0 → post 1 m') (hf : sk B L p < L → ¬ B (sk B L p) = 59 → ∀ m', Fr [31, 32] [] [] [] m m' → m'.1 32 = flt (sk B L p) 0 → post 0 m') : PX9_goesOn m post := by
  have l4 := tx.1
  have fr := r.1
  have sp : sk B L p ≤ L := (fw_ok (isBl B) hp).2.1
  unfold PX9_goesOn
  refine mp_blanks (TX_fr fr (by decide) tx) hp (r.2.2.1 rfl) (fun m1 f1 r1 => ?_)
  have fr1 : Fr [31, 32] LH [] [] m0 m1 := Fr_trans fr (Fr_mono f1 (by decide) (by simp) (by decide) (by decide))
  have tx1 := TX_fr fr1 (by decide) tx
  refine br_nt r1.2.2 ?_
  rw [r1.1, r1.2.1]
  by_cases c : sk B L p < L
  · refine br_f (fr_nle c (by omega)) (mp_sign tx1 r1 (by omega) ?_)
    have ce := chr_eq (B := B) (L := L) (q := sk B L p) (w := 59) (by omega) (fun c => (tx.2 _ c).1)
    refine br_c (fun e => ?_) (fun e => ?_)
    · have y := ce.mp e
      unfold PX9_goesOn_b40
      refine br_nt r1.2.2 ?_
      rw [r1.1, r1.2.1]
      refine br_f (fr_nle c (by omega)) ?_
      unfold PX9_goesOn_b63
      rw [r1.2.1, nI_1]
      rintro _ rfl _ rfl
      exact hs c y.2 _ (Fr_si (by decide) f1) ⟨r1.1, rfl, r1.2.2⟩
    · refine mp_fails (k := 0) r1 (fun m2 f2 r2 => ?_)
      rw [fst_z] at r2
      have nz : ¬ flt (sk B L p) 0 = 0 := flt_ne (k := 0) (by omega) (by omega)
      unfold PX9_goesOn_b40
      refine br_nf (by rw [r2.2.2]; exact nz) ?_
      unfold PX9_goesOn_b63
      rintro _ rfl _ rfl
      exact hf c (fun y => e (ce.mpr ⟨c, y⟩)) _ (Fr_si (by decide) (Fr_trans (Fr_mono f1 (by decide) (by decide) (by decide) (by decide)) (Fr_mono f2 (by decide) (by decide) (by decide) (by decide)))) r2.2.2
  · refine br_t (fr_le (by omega) (by omega)) ?_
    unfold PX9_goesOn_b40
    refine br_nt r1.2.2 ?_
    rw [r1.1, r1.2.1]
    refine br_t (fr_le (by omega) (by omega)) ?_
    unfold PX9_goesOn_b63
    rintro _ rfl _ rfl
    exact he c _ (Fr_si (by decide) f1)
theorem mp_hrun {t m0 : OV} {B : Nat → Nat} {L : Nat} (tx : TX B L t m0) {F : Int32} {h' : OV} {S' T' Q' K' : Nat} {post : OV → Prop} (hq : ∀ m', Fr [30, 31, 32] LH [] [] m0 m' → m'.1 30 = 0 → m'.1 32 = F → (F = 0 → HN h' m' S' T' Q' K') → post m') : ∀ k i, i + k = 41 → ∀ m p h S T Q K, p ≤ L → Rst B L m0 m 0 p → HN h m S T Q K → HR B L k i p h S T Q K F h' S' T' Q' K' → PX9_readsAll_L39 post (k + 1) (nI i) 1 m
  | 0, _, _, _, _, _, _, _, _, _, _, _, _, hr => by
    rw [HR] at hr
    exact absurd hr id
  | k + 1, i, hi, m, p, h, S, T, Q, K, hp, r, hn, hr => by
    have l4 := tx.1
    obtain ⟨F1, p1, h1, c, hp1, alt⟩ := HR_s.mp hr
    have stop : ∀ m2 y1 n, Fr [31, 32] LH [] [] m0 m2 → m2.1 32 = F → (F = 0 → HN h' m2 S' T' Q' K') → PX9_readsAll_L39 post (n + 1) y1 0 m2 := by
      intro m2 y1 n f2 e2 g2
      unfold PX9_readsAll_L39
      refine br_t rfl ?_
      rintro _ rfl
      refine hq _ (Fr_si (by decide) (Fr_mono f2 (by decide) (by simp) (by decide) (by decide))) rfl e2 (fun z => g2 z)
    unfold PX9_readsAll_L39
    refine br_f (by decide) (mp_hillClause tx (by omega) hp r hn c (fun m1 r1 g1 => ?_))
    rw [nI_1]
    rintro _ rfl
    rcases alt with ⟨nz, e⟩ | ⟨z, S1, T1, Q1, K1, hc1, alt⟩
    · refine mp_goesOn_no tx nz r1 (fun m2 f2 e2 => stop m2 _ _ (Fr_trans r1.1 (Fr_mono f2 (by decide) (by simp) (by decide) (by decide))) (e2.trans e.symm) (fun y => absurd (e.symm.trans y) nz))
    · rw [z] at r1
      obtain ⟨S2, T2, Q2, K2, g2⟩ := g1 z
      have g3 := HN_one g2 hc1
      refine mp_goesOn tx hp1 r1 (fun a m2 f2 => ?_) (fun a b m2 f2 r2 => ?_) (fun a b m2 f2 e2 => ?_)
      · rcases alt with ⟨_, e, rfl, rfl, rfl, rfl, rfl⟩ | ⟨y, _⟩ | ⟨y, _⟩
        · refine stop m2 _ _ (Fr_trans r1.1 (Fr_mono f2 (by decide) (by simp) (by decide) (by decide))) ?_ (fun _ => HN_fr (Fr_mono f2 (by decide) (by decide) (by decide) (by decide)) g3)
          rw [f2.1 32 (by decide), e]
          exact r1.2.1
        · exact absurd y a
        · exact absurd y a
      · rcases alt with ⟨y, _⟩ | ⟨_, y, _⟩ | ⟨_, _, hr1⟩
        · exact absurd a y
        · exact absurd b y
        · exact mp_hrun tx hq k (i + 1) (by omega) m2 _ h1 S1 T1 Q1 K1 (by omega) ⟨Fr_trans r1.1 (Fr_mono f2 (by decide) (by simp) (by decide) (by decide)), r2.2.2, fun _ => r2, r2.1, _, by omega, r2.2.1⟩ (HN_fr (Fr_mono f2 (by decide) (by decide) (by decide) (by decide)) g3) hr1
      · rcases alt with ⟨y, _⟩ | ⟨_, _, e⟩ | ⟨_, y, _⟩
        · exact absurd a y
        · refine stop m2 _ _ (Fr_trans r1.1 (Fr_mono f2 (by decide) (by simp) (by decide) (by decide))) (e2.trans e.symm) (fun y => absurd (e.symm.trans y) (flt_ne (k := 0) (by omega) (by omega)))
        · exact absurd y b
theorem mp_readsAll {t m : OV} {B : Nat → Nat} {L : Nat} (tx : TX B L t m) (h30 : m.1 30 = nI L) {F : Int32} {h' : OV} {S' T' Q' K' : Nat} (hr : HR B L 41 0 0 v0X0 0 0 0 0 F h' S' T' Q' K') {post : OV → Prop} (hq : ∀ m', Fr [30, 31, 32, 35, 36, 37] LH [] [] m m' → m'.1 30 = 0 → m'.1 32 = F → (F = 0 → HN h' m' S' T' Q' K') → post m') : PX9_readsAll m post := by
  have l4 := tx.1
  unfold PX9_readsAll PX9_starts
  rintro _ rfl _ rfl _ rfl _ rfl _ rfl
  have f0 : Fr [30, 31, 32, 35, 36, 37] LH [] [] m (si (si (si (si (si m 31 0) 32 0) 35 0) 36 0) 37 0) := Fr_si (by decide) (Fr_si (by decide) (Fr_si (by decide) (Fr_si (by decide) (Fr_si (by decide) Fr_refl))))
  have r0 : RM (si (si (si (si (si m 31 0) 32 0) 35 0) 36 0) 37 0) L 0 0 := ⟨h30, rfl, rfl⟩
  revert f0 r0
  generalize si (si (si (si (si m 31 0) 32 0) 35 0) 36 0) 37 0 = m0
  intro f0 r0
  refine fr_rel (fun n i y => PX9_readsAll_L6 post n (nI i) y) (fun i y => Fr [] [20] [] [] m0 y ∧ ∀ j, j < i → y.2.1 20 j = if j = 7 then -1 else 0) 8 m0 ⟨Fr_refl, fun j hj => absurd hj (by omega)⟩ ?_ ?_
  · rintro n y ⟨fr, a⟩
    unfold PX9_readsAll_L6
    refine br_t (Int32.le_refl _) ?_
    have fy : Fr [30, 31, 32, 35, 36, 37] LH [] [] m y := Fr_trans f0 (Fr_mono fr (by decide) (by decide) (by decide) (by decide))
    have ry : RM y L 0 0 := ⟨(fr.1 30 (by decide)).trans r0.1, (fr.1 31 (by decide)).trans r0.2.1, (fr.1 32 (by decide)).trans r0.2.2⟩
    have hn : HN v0X0 y 0 0 0 0 := ⟨⟨by omega, by omega, by omega, by omega, rfl, rfl, rfl, rfl⟩, ⟨a 3 (by omega), a 4 (by omega), a 5 (by omega), a 6 (by omega)⟩, ⟨a 0 (by omega), a 1 (by omega), a 2 (by omega), a 7 (by omega)⟩, fun t ht => absurd ht (by omega), fun t ht => absurd ht (by omega), fun t ht => absurd ht (by omega), fun t ht => absurd ht (by omega)⟩
    have txy := TX_fr fy (by decide) tx
    refine ⟨42, mp_hrun txy (fun m' f' e30 e32 g => hq m' (Fr_trans fy (Fr_mono f' (by decide) (by simp) (by decide) (by decide))) e30 e32 g) 41 0 rfl y 0 v0X0 0 0 0 0 (Nat.zero_le L) ⟨Fr_refl, ry.2.2, fun _ => ry, ry.1, 0, Nat.zero_le L, ry.2.1⟩ hn hr⟩
  · rintro n i y hi ⟨fr, a⟩ next
    unfold PX9_readsAll_L6
    rw [nI_31 (show i < 1000 by omega)]
    refine br_f (fr_nle (b := 8) hi (by omega)) (br_nc (fun e => ⟨vp_in_q hi (by omega), ?_⟩) (fun e => ⟨vp_in_q hi (by omega), ?_⟩))
    · rintro _ rfl _ rfl
      rw [nI_1]
      refine next _ ⟨Fr_sa (by decide) (by decide) fr, fun j hj => ?_⟩
      show upd (y.2.1 20) i 0 j = _
      by_cases g : j = i
      · rw [g, upd_eq, if_neg (fun y => e (by rw [y]; rfl))]
      · rw [upd_ne _ _ g]
        exact a j (by omega)
    · rintro _ rfl _ rfl
      rw [nI_1]
      refine next _ ⟨Fr_sa (by decide) (by decide) fr, fun j hj => ?_⟩
      show upd (y.2.1 20) i (-1) j = _
      by_cases g : j = i
      · rw [g, upd_eq, if_pos (nI_inj (b := 7) (by omega) (by omega) e)]
      · rw [upd_ne _ _ g]
        exact a j (by omega)
/-- bounds of the hill while it is told -/
def VI (i : Nat) (h : OV) (S Q : Nat) : Prop := (∀ t, t < S → isIx (h.2.1 5 t) 100 ∧ isIx (h.2.1 6 t) 21 ∧ isIx (h.2.1 7 t) 10) ∧ (∀ q, q < Q → isIx (h.2.1 12 q) 10 ∧ isIx (h.2.1 15 q) 3) ∧ (0 < i → isIx (h.1 1) 100 ∧ isIx (h.1 2) 51 ∧ isIx (h.1 3) 100 ∧ 0 < h.1 2) ∧ (h.1 8 = -1 ∨ isIx (h.1 8) S) ∧ ∀ k, k < 4 → i = 0 → h.1 k = 0
theorem nk_ix {B : Nat → Nat} {L p : Nat} (hl : L ≤ 400) (hp : p ≤ L) {lo : Int32} {n : Nat} (hn : n < 1000) (h0 : 0 ≤ lo) (h : nk B L p lo (nI n - 1) = 0) : isIx (nv B L p) n := by
  obtain ⟨a, b⟩ := nk_in hl hp h
  exact (isIx_iff (by omega)).mpr ⟨Int32.le_trans h0 a, (nI_sub1 (by omega)).mp b⟩
theorem VI_step {B : Nat → Nat} {L i p : Nat} {h : OV} {S T Q K : Nat} {F : Int32} {p' : Nat} {h' : OV} {S1 T1 Q1 K1 : Nat} (hL : L ≤ 400) (hp : p ≤ L) (hc : HC h S T Q K) (v : VI i h S Q) (c : ClS B L i p h S T Q K F p' h') (e : F = 0) (hc1 : HC h' S1 T1 Q1 K1) : VI (i + 1) h' S1 Q1 := by
  have sp : sk B L p ≤ L := (fw_ok (isBl B) hp).2.1
  have wl := wz_le (B := B) sp
  obtain ⟨l1, l2, l3, l4, e4, e9, e11, e16⟩ := hc
  obtain ⟨k1, k2, k3, k4, f4, f9, f11, f16⟩ := hc1
  obtain ⟨v1, v2, v3, v4, v5⟩ := v
  rcases c with ⟨_, f⟩ | ⟨k, _, _, f⟩ | ⟨k, kk, nf, f, _, rfl⟩
  · rw [f] at e
    exact absurd e (flt_ne (k := 0) (by omega) (by omega))
  · rw [f] at e
    exact absurd e (flt_ne (k := 4) (by omega) (by omega))
  · rw [f] at e
    revert e f4 f11 wl
    generalize sk B L p + wz B L (sk B L p) = P
    intro wl e f4 f11
    have hk := kk.1
    have P1 := ne_le (B := B) wl
    have P2 := ne_le (B := B) P1
    have P3 := ne_le (B := B) P2
    have ik : k = 0 ↔ i = 0 := Classical.byContradiction (fun y => nf (Or.inr (Or.inl y)))
    have nfu : ¬ fulC k S T Q K := fun y => nf (Or.inr (Or.inr y))
    unfold fulC at nfu
    have kc : k = 0 ∨ k = 1 ∨ k = 2 ∨ k = 3 ∨ k = 4 ∨ k = 5 := by omega
    have i0 : ¬ k = 0 → 0 < i := fun y => by
      rcases Nat.eq_zero_or_pos i with u | u
      · exact absurd (ik.mpr u) y
      · exact u
    rcases kc with rfl | rfl | rfl | rfl | rfl | rfl
    · have eS : S1 = S := nI_inj (by omega) (by omega) (f4.symm.trans e4)
      have eQ : Q1 = Q := nI_inj (by omega) (by omega) (f11.symm.trans e11)
      rw [eS, eQ]
      obtain ⟨z12, z3⟩ := fst_0 e
      obtain ⟨z1, z2⟩ := fst_0 z12
      refine ⟨v1, v2, fun _ => ⟨?_, ?_, ?_, ?_⟩, v4, fun _ _ y => absurd y (by omega)⟩
      · exact nk_ix (n := 100) hL wl (by omega) (by decide) z1
      · exact nk_ix (n := 51) hL P1 (by omega) (by decide) z2
      · exact nk_ix (n := 100) hL P2 (by omega) (by decide) z3
      · exact Int32.lt_of_lt_of_le (by decide) (nk_in hL P1 z2).1
    · have eS : S1 = S + 1 := nI_inj (by omega) (by omega) (f4.symm.trans (by show h.1 4 + 1 = _; rw [e4, nI_1]))
      have eQ : Q1 = Q := nI_inj (by omega) (by omega) (f11.symm.trans e11)
      rw [eS, eQ]
      have ek : (h.1 4).toNatClampNeg = S := by rw [e4]; exact nI_31 (by omega)
      obtain ⟨z12, z3⟩ := fst_0 e
      obtain ⟨z1, z2⟩ := fst_0 z12
      refine ⟨fun t ht => ?_, v2, fun _ => v3 (i0 (by omega)), ?_, fun _ _ y => absurd y (by omega)⟩
      · show isIx (upd (h.2.1 5) (h.1 4).toNatClampNeg (nv B L P) t) 100 ∧ isIx (upd (h.2.1 6) (h.1 4).toNatClampNeg (nv B L (ne B L P)) t) 21 ∧ isIx (upd (h.2.1 7) (h.1 4).toNatClampNeg (nv B L (ne B L (ne B L P))) t) 10
        rw [ek]
        by_cases g : t = S
        · rw [g, upd_eq, upd_eq, upd_eq]
          exact ⟨nk_ix (n := 100) hL wl (by omega) (by decide) z1, nk_ix (n := 21) hL P1 (by omega) (by decide) z2, nk_ix (n := 10) hL P2 (by omega) (by decide) z3⟩
        · rw [upd_ne _ _ g, upd_ne _ _ g, upd_ne _ _ g]
          exact v1 t (by omega)
      · rcases v4 with u | ⟨t, ht, u⟩
        · exact Or.inl u
        · exact Or.inr ⟨t, by omega, u⟩
    · have eS : S1 = S := nI_inj (by omega) (by omega) (f4.symm.trans e4)
      have eQ : Q1 = Q := nI_inj (by omega) (by omega) (f11.symm.trans e11)
      rw [eS, eQ]
      refine ⟨v1, v2, fun _ => v3 (i0 (by omega)), Or.inr ?_, fun _ _ y => absurd y (by omega)⟩
      have e' : nk B L P 0 (h.1 4 - 1) = 0 := e
      rw [e4] at e'
      exact nk_ix hL wl (by omega) (by decide) e'
    · have eS : S1 = S := nI_inj (by omega) (by omega) (f4.symm.trans e4)
      have eQ : Q1 = Q := nI_inj (by omega) (by omega) (f11.symm.trans e11)
      rw [eS, eQ]
      exact ⟨v1, v2, fun _ => v3 (i0 (by omega)), v4, fun _ _ y => absurd y (by omega)⟩
    · have eS : S1 = S := nI_inj (by omega) (by omega) (f4.symm.trans e4)
      have eQ : Q1 = Q + 1 := nI_inj (by omega) (by omega) (f11.symm.trans (by show h.1 11 + 1 = _; rw [e11, nI_1]))
      rw [eS, eQ]
      have ek : (h.1 11).toNatClampNeg = Q := by rw [e11]; exact nI_31 (by omega)
      obtain ⟨z123, z4⟩ := fst_0 e
      obtain ⟨z12, z3⟩ := fst_0 z123
      obtain ⟨z1, z2⟩ := fst_0 z12
      refine ⟨v1, fun q hq => ?_, fun _ => v3 (i0 (by omega)), v4, fun _ _ y => absurd y (by omega)⟩
      show isIx (upd (h.2.1 12) (h.1 11).toNatClampNeg (nv B L P) q) 10 ∧ isIx (upd (h.2.1 15) (h.1 11).toNatClampNeg (nv B L (ne B L (ne B L (ne B L P)))) q) 3
      rw [ek]
      by_cases g : q = Q
      · rw [g, upd_eq, upd_eq]
        exact ⟨nk_ix (n := 10) hL wl (by omega) (by decide) z1, nk_ix (n := 3) hL P3 (by omega) (by decide) z4⟩
      · rw [upd_ne _ _ g, upd_ne _ _ g]
        exact v2 q (by omega)
    · have eS : S1 = S := nI_inj (by omega) (by omega) (f4.symm.trans e4)
      have eQ : Q1 = Q := nI_inj (by omega) (by omega) (f11.symm.trans e11)
      rw [eS, eQ]
      exact ⟨v1, v2, fun _ => v3 (i0 (by omega)), v4, fun _ _ y => absurd y (by omega)⟩
theorem HR_end {B : Nat → Nat} {L : Nat} (hL : L ≤ 400) {F : Int32} {h' : OV} {S' T' Q' K' : Nat} (e : F = 0) : ∀ k i p h S T Q K, p ≤ L → HC h S T Q K → VI i h S Q → HR B L k i p h S T Q K F h' S' T' Q' K' → HC h' S' T' Q' K' ∧ ∃ j, 0 < j ∧ VI j h' S' Q'
  | 0, _, _, _, _, _, _, _, _, _, _, hr => by
    rw [HR] at hr
    exact absurd hr id
  | k + 1, i, p, h, S, T, Q, K, hp, hc, v, hr => by
    obtain ⟨F1, p1, h1, c, hp1, alt⟩ := HR_s.mp hr
    rcases alt with ⟨nz, f⟩ | ⟨z, S1, T1, Q1, K1, hc1, alt⟩
    · exact absurd (f.symm.trans e) nz
    · have v1 := VI_step hL hp hc v c z hc1
      rcases alt with ⟨_, _, rfl, rfl, rfl, rfl, rfl⟩ | ⟨_, _, f⟩ | ⟨a, _, hr1⟩
      · exact ⟨hc1, i + 1, by omega, v1⟩
      · exact absurd (f.symm.trans e) (flt_ne (k := 0) (by omega) (by omega))
      · exact HR_end hL e k (i + 1) _ h1 S1 T1 Q1 K1 (by omega) hc1 v1 hr1
