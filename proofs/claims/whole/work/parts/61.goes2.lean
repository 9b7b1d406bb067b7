/-! 61: a day, by the reference, whole -/
theorem i0n : ((0 : Int32)).toNatClampNeg = 0 := rfl
theorem i1n : ((1 : Int32)).toNatClampNeg = 1 := rfl
theorem i2n : ((2 : Int32)).toNatClampNeg = 2 := rfl
theorem i3n : ((3 : Int32)).toNatClampNeg = 3 := rfl
theorem i4n : ((4 : Int32)).toNatClampNeg = 4 := rfl
theorem i5n : ((5 : Int32)).toNatClampNeg = 5 := rfl
theorem i6n : ((6 : Int32)).toNatClampNeg = 6 := rfl
theorem i7n : ((7 : Int32)).toNatClampNeg = 7 := rfl
theorem i8n : ((8 : Int32)).toNatClampNeg = 8 := rfl
theorem i9n : ((9 : Int32)).toNatClampNeg = 9 := rfl
theorem i10n : ((10 : Int32)).toNatClampNeg = 10 := rfl
theorem i11n : ((11 : Int32)).toNatClampNeg = 11 := rfl
theorem sa_comm (v : OV) {j k : Nat} (f g : Nat → Int32) (h : j ≠ k) : sa (sa v j f) k g = sa (sa v k g) j f := by
  unfold sa
  refine Prod.ext rfl (Prod.ext (funext fun i => ?_) rfl)
  show (if i = k then g else if i = j then f else v.2.1 i) = (if i = j then f else if i = k then g else v.2.1 i)
  by_cases a : i = k
  · rw [if_pos a]
    by_cases b : i = j
    · exact absurd (b.symm.trans a) h
    · rw [if_neg b, if_pos a]
  · rw [if_neg a, if_neg a]
def rb1 (s : OV) (q k : Nat) (b : Int32) : Int32 := if s.2.1 4 k ≤ (if b = -1 then s.2.1 5 q else s.2.1 4 b.toNatClampNeg) then b else nI k
def rbS (s : OV) (q n : Nat) : Int32 := itn (rb1 s q) n (-1)
/-- the reference's choice of a thing by the class's -/
theorem rb_sb (s : OV) (q : Nat) : ∀ n, n < 1000 → rbS s q n = if sbS s n = -1 then -1 else if s.2.1 4 (sbS s n).toNatClampNeg ≤ s.2.1 5 q then -1 else sbS s n
  | 0, _ => rfl
  | n + 1, hn => by
    have ih := rb_sb s q n (by omega)
    have hb := sb_ix s n
    show rb1 s q n (rbS s q n) = _
    rw [show sbS s (n + 1) = sb1 s n (sbS s n) from rfl]
    unfold rb1
    rw [ih]
    unfold sb1
    by_cases d : sbS s n = -1
    · rw [if_pos d, if_pos d, if_pos rfl, if_neg (nI_n1 (by omega)), nI_31 (show n < 1000 by omega)]
    · obtain ⟨t, ht, et⟩ := hb.2 (by rcases Nat.eq_zero_or_pos n with z | z; exact absurd (hb.1 z) d; exact z)
      rw [et] at d ⊢
      rw [if_neg d, if_neg d, nI_31 (show t < 1000 by omega)]
      by_cases c : s.2.1 4 t ≤ s.2.1 5 q
      · rw [if_pos c, if_pos rfl]
        by_cases g : s.2.1 4 n ≤ s.2.1 4 t
        · rw [if_pos g, if_neg d, nI_31 (show t < 1000 by omega), if_pos c, if_pos (Int32.le_trans g c)]
        · rw [if_neg g, if_neg (nI_n1 (by omega)), nI_31 (show n < 1000 by omega)]
      · rw [if_neg c, if_neg d, nI_31 (show t < 1000 by omega)]
        by_cases g : s.2.1 4 n ≤ s.2.1 4 t
        · rw [if_pos g, if_neg d, nI_31 (show t < 1000 by omega), if_neg c]
        · rw [if_neg g, if_neg (nI_n1 (by omega)), nI_31 (show n < 1000 by omega), if_neg (fun y => c (Int32.le_of_lt (Int32.lt_of_lt_of_le (Int32.not_le.mp g) y)))]
theorem mp_swaps {m s : OV} {S T Q q : Nat} (hT : T ≤ 6) (hQ : Q ≤ 4) (hq : q < Q) (e4 : m.2.1 1 4 = nI T) (sr : SRel s S T Q m) {post : OV → Prop} (hp : ∀ m', Fr [] [6, 9] [] [] m m' → SRel (swS s T q) S T Q m' → post m') : PX9_swaps m (nI q) post := by
  unfold PX9_swaps
  have i4 : m.2.1 1 ((4 : Int32)).toNatClampNeg = nI T := e4
  have e9 : m.2.1 9 q = s.2.1 5 q := (sr.2.2.2 q hq).1
  have e6 := sr.2.2.1
  have rix : ∀ n, n ≤ T → rbS s q n = -1 ∨ ∃ t, t < n ∧ rbS s q n = nI t := by
    intro n hn
    rw [rb_sb s q n (by omega)]
    by_cases d : sbS s n = -1
    · rw [if_pos d]; exact Or.inl rfl
    · rw [if_neg d]
      split
      · exact Or.inl rfl
      · exact Or.inr ((sb_ix s n).2 (by rcases Nat.eq_zero_or_pos n with z | z; exact absurd ((sb_ix s n).1 z) d; exact z))
  refine fr_loop (fun n i b => PX9_swaps_L4 post n (nI q) b (nI i) m) (rb1 s q) T (-1) ?_ ?_
  · intro n
    have er := rb_sb s q T (by omega)
    have hr := rix T (Nat.le_refl T)
    rw [show itn (rb1 s q) T (-1) = rbS s q T from rfl]
    unfold swS at hp
    unfold PX9_swaps_L4
    rw [i4]
    refine br_t (Int32.le_refl _) ?_
    by_cases d : sbS s T = -1
    · rw [if_pos d] at er hp
      exact br_t er (hp m Fr_refl sr)
    · rw [if_neg d] at er hp
      by_cases c : s.2.1 4 (sbS s T).toNatClampNeg ≤ s.2.1 5 q
      · rw [if_pos c] at er hp
        exact br_t er (hp m Fr_refl sr)
      · rw [if_neg c] at er hp
        rw [← er] at hp d
        obtain ⟨t, ht, et⟩ := hr.resolve_left d
        rw [et] at hp d ⊢
        rw [nI_31 (show t < 1000 by omega)] at hp
        rw [nI_31 (show t < 1000 by omega), nI_31 (show q < 1000 by omega), e6 t ht, e9]
        refine br_f d ⟨vp_in_q (by omega) (by omega), ?_⟩
        rintro _ rfl
        refine ⟨vp_in_q (by omega) (by omega), ?_⟩
        rintro _ rfl
        refine ⟨vp_in_q (by omega) (by omega), ?_⟩
        rintro _ rfl
        refine ⟨vp_in_q (by omega) (by omega), ?_⟩
        rintro _ rfl
        refine hp _ (Fr_sa (by decide) (by decide) (Fr_sa (by decide) (by decide) Fr_refl)) ?_
        rw [sa_comm s _ _ (by decide)]
        exact SRel_9 q _ (SRel_6 t _ sr)
  · intro n i hi hw
    have hr := rix i (by omega)
    rw [show itn (rb1 s q) i (-1) = rbS s q i from rfl] at hw ⊢
    generalize rbS s q i = b at hr hw ⊢
    unfold rb1 at hw
    rw [← nI_1] at hw
    unfold PX9_swaps_L4 PX9_swaps_b40
    rw [i4, nI_31 (show i < 1000 by omega), nI_31 (show q < 1000 by omega), e6 i hi, e9]
    refine br_f (fr_nle hi (by omega)) ⟨vp_in_q (by omega) (by omega), ?_⟩
    refine br_nc (fun d => ?_) (fun d => ?_)
    · obtain ⟨t, ht, et⟩ := hr.resolve_left d
      rw [et] at hw d ⊢
      rw [if_neg d, nI_31 (show t < 1000 by omega)] at hw
      rw [nI_31 (show t < 1000 by omega), e6 t (by omega)]
      refine ⟨vp_in_q (by omega) (by omega), br_if (post := fun z => PX9_swaps_L4 post n (nI q) z (nI i + 1) m) (fun _ h => ?_) (fun _ h => ?_) hw⟩
      · rintro _ rfl
        exact h
      · rintro _ rfl
        exact h
    · rw [d] at hw ⊢
      rw [if_pos rfl] at hw
      refine ⟨vp_in_q (by omega) (by omega), br_if (post := fun z => PX9_swaps_L4 post n (nI q) z (nI i + 1) m) (fun _ h => ?_) (fun _ h => ?_) hw⟩
      · rintro _ rfl
        exact h
      · rintro _ rfl
        exact h
theorem mp_putsBack {m s : OV} {S T Q q : Nat} {sh : Int32} (hS : S ≤ 10) (hQ : Q ≤ 4) (hq : q < Q) (e3 : m.2.1 1 3 = nI S) (e10 : m.2.1 10 q = sh) (ht : isIx (s.1 2) S) (sr : SRel s S T Q m) {post : OV → Prop} (hp : ∀ m', Fr [] [] [7] [] m m' → SRel (pbS S sh s) S T Q m' → post m') : PX9_putsBack m (nI q) post := by
  obtain ⟨t, ht, et⟩ := ht
  unfold PX9_putsBack
  have i7 : m.2.1 1 ((7 : Int32)).toNatClampNeg = nI t := sr.1.2.1.trans et
  have key : ∀ x, (isIx x S → ∀ m', Fr [] [] [7] [] m m' → SRel (si s 2 x) S T Q m' → post m') → (¬ isIx x S → ∀ m', Fr [] [] [7] [] m m' → SRel s S T Q m' → post m') → PX9_putsBack_b51 post x m := by
    intro x h1 h2
    unfold PX9_putsBack_b51
    refine mp_isStone hS e3 ?_
    by_cases c : isIx x S
    · rw [zb_t c]
      refine br_f (by decide) ?_
      rintro _ rfl
      exact h1 c _ (Fr_sc (by decide) Fr_refl) (SRel_tin x sr)
    · rw [zb_f c]
      refine br_t rfl ?_
      rintro _ rfl _ rfl
      refine h2 c _ (Fr_sc (by decide) Fr_refl) ?_
      have := SRel_tin (s.1 2) sr
      rw [si_self] at this
      rw [show m.2.1 1 ((7 : Int32)).toNatClampNeg = s.1 2 from sr.1.2.1]
      exact this
  unfold pbS at hp
  rw [et] at hp
  rw [nI_31 (show q < 1000 by omega), e10]
  refine ⟨vp_in_q (by omega) (by omega), ?_⟩
  by_cases c : sh = 1
  · refine br_nt c ?_
    rw [if_pos c] at hp
    rw [i7]
    refine key _ (fun g => ?_) (fun g => ?_)
    · obtain ⟨t', ht', e'⟩ := g
      rw [nI_1] at e'
      have := nI_inj (by omega) (by omega) e'
      rw [if_neg (by rw [nI_ltZ (by omega) ht]; omega)] at hp
      exact hp
    · have : ¬ t + 1 < S := fun y => g ⟨t + 1, y, nI_1 t⟩
      rw [if_pos (by rw [nI_ltZ (by omega) ht]; exact this)] at hp
      exact hp
  · refine br_nf c ⟨vp_in_q (by omega) (by omega), ?_⟩
    rw [if_neg c] at hp
    by_cases d : sh = 2
    · refine br_nt d ?_
      rw [if_pos d] at hp
      rw [i7]
      rcases Nat.eq_zero_or_pos t with z | z
      · rw [if_pos (by rw [z]; decide)] at hp
        refine key _ (fun g => ?_) (fun _ => hp)
        rw [z] at g
        obtain ⟨t', ht', e'⟩ := g
        exact absurd e'.symm (nI_n1 (by omega))
      · rw [if_neg (nI_nle z (by omega))] at hp
        refine key _ (fun _ => hp) (fun g => ?_)
        obtain ⟨k, rfl⟩ : ∃ k, t = k + 1 := ⟨t - 1, by omega⟩
        exact absurd ⟨k, by omega, nI_dn1⟩ g
    · refine br_nf d ?_
      rw [if_neg d] at hp
      rw [i7]
      refine key _ (fun _ m' a b => hp m' a ?_) (fun g => absurd ⟨t, ht, rfl⟩ g)
      rw [← et, si_self] at b
      exact b
theorem mp_walksBy {m h s : OV} {S T Q K d e : Nat} (lim : Lim S T Q K) (so : Sok s S Q d e) (hr : HRel h S T Q K m) (sr : SRel s S T Q m) (e50 : m.1 50 = 0 ∨ m.1 50 = 1) {post : OV → Prop} (hp : ∀ m', Fr [] [] [7, 8] [] m m' → SRel (nwS h S K (m.1 50 = 1) s) S T Q m' → post m') : PX9_walksBy m post := by
  obtain ⟨l1, l2, l3, l4⟩ := lim
  obtain ⟨⟨h1, h2, h3, h4, h5, h6⟩, hs, hk, hw⟩ := hr
  have fin : ∀ m1 s1, Fr [] [] [7, 8] [] m m1 → SRel s1 S T Q m1 → (∀ m', Fr [] [] [7, 8] [] m m' → SRel (dayS s1) S T Q m' → post m') → PX9_walksBy_b54 post m1 := by
    intro m1 s1 f r k
    unfold PX9_walksBy_b54
    rintro _ rfl _ rfl
    rw [show m1.2.1 1 ((8 : Int32)).toNatClampNeg = s1.1 0 from r.1.2.2]
    exact k _ (Fr_sc (by decide) f) (SRel_day _ r)
  unfold PX9_walksBy
  have i7 : m.2.1 1 ((7 : Int32)).toNatClampNeg = s.1 2 := sr.1.2.1
  have i1 : m.2.1 1 ((1 : Int32)).toNatClampNeg = h.1 2 := h1
  have i8 : m.2.1 1 ((8 : Int32)).toNatClampNeg = s.1 0 := sr.1.2.2
  rw [i8]
  refine mp_doWalk (h := h) l4 h6 hw e50 ?_
  unfold nwS at hp
  have no : (¬ ((m.1 50 = 1 ∨ wlkS h K (s.1 0)) ∧ seenS h s S)) → PX9_walksBy_b54 post m := by
    intro n
    rw [zb_f n, if_neg (by decide)] at hp
    exact fin m s Fr_refl sr hp
  by_cases w : wlkS h K (s.1 0) ∨ m.1 50 = 1
  · rw [zb_t w]
    refine br_f (by decide) ?_
    rw [i7, i1]
    rcases so.2.1 with n | ⟨t, ht, et⟩
    · refine br_t n (no (fun y => ?_))
      obtain ⟨t, ht, et⟩ := y.2.1
      exact nI_n1 (by omega) (et.symm.trans n)
    · rw [et, nI_31 (show t < 1000 by omega), sr.2.1 t ht]
      refine br_f (nI_n1 (by omega)) ⟨vp_in_q (by omega) (by omega), ?_⟩
      refine br_c (fun g => no (fun y => ?_)) (fun g => ?_)
      · have := y.2.2
        rw [et, nI_31 (show t < 1000 by omega)] at this
        exact this g
      · rintro _ rfl
        rw [zb_t ⟨w.symm, ⟨t, ht, et⟩, by rw [et, nI_31 (show t < 1000 by omega)]; exact g⟩, if_pos rfl] at hp
        exact fin _ _ (Fr_sc (by decide) Fr_refl) (SRel_tin (-1) sr) hp
  · rw [zb_f w]
    exact br_t rfl (no (fun y => w y.1.symm))
