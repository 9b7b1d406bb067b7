/-! 86: words -/
def slen (s : Nat) : Nat := (kn_sb s).length
def sc (s i : Nat) : Nat := ((kn_sb s).getD i 0).toNatClampNeg
theorem sl_all : ∀ s, s < 30 → 0 < slen s ∧ slen s < 90 := by decide +kernel
theorem sc_all : ∀ s, s < 30 → ∀ i, i < slen s → ((((kn_sb s).getD i 0) &&& (255 : Int32)).toUInt32 % 65536).toInt32 = nI (sc s i) ∧ sc s i < 128 := by decide +kernel
theorem sh_z : ∀ n, n < 90 → nI n >>> ((0 : Int32) &&& 31) = nI n := by decide +kernel
theorem cp_len {s : Nat} (hs : s < 30) {post : Int32 → Prop} (hp : post (nI (slen s))) : PJ0_length_8abf5 s post := by
  unfold PJ0_length_8abf5 PJ0_coder_7d493
  refine ⟨hs, hs, hs, br_f (by decide) ⟨hs, ?_⟩⟩
  have := sh_z (slen s) (sl_all s hs).2
  show post (nI (slen s) >>> ((0 : Int32) &&& 31))
  rw [this]
  exact hp
theorem cp_chAt {s i : Nat} (hs : s < 30) (hi : i < slen s) {post : Int32 → Prop} (hp : post (nI (sc s i))) : PJ0_charAt_5068e s (nI i) post := by
  have l := sl_all s hs
  unfold PJ0_charAt_5068e PJ0_isLatin1_aae02
  refine ⟨hs, br_f (by decide) ⟨hs, br_nt rfl (br_f (by decide) ⟨hs, ?_⟩)⟩⟩
  unfold PJ1_charAt_3b067
  refine ⟨hs, ?_⟩
  have inner : s < 30 ∧ vp_in (nI i) (kn_sb s).length ∧ post (((((kn_sb s).getD (nI i).toNatClampNeg 0) &&& ((255 : Int32))).toUInt32 % 65536).toInt32) := by
    refine ⟨hs, vp_in_q hi (by have : (kn_sb s).length = slen s := rfl; omega), ?_⟩
    rw [nI_31 (show i < 1000 by omega), (sc_all s hs i hi).1]
    exact hp
  have lt : nI i < Int32.ofNat (kn_sb s).length := nI_lt hi (by have : (kn_sb s).length = slen s := rfl; omega)
  unfold PJ0_checkIndex_df160
  refine ⟨?_, fun tq => ?_⟩
  · unfold PJ3_checkIndex_8e157_N
    exact br_f (nI_pos (by omega)) (br_t lt inner)
  · unfold PJ3_checkIndex_8e157_R
    exact br_f (nI_pos (by omega)) (br_t lt inner)
/-- how long the word at p is -/
noncomputable def wz (B : Nat → Nat) (L p : Nat) : Nat := fw (isLt B) L p - p
/-- the word at p is the string s -/
def MT (B : Nat → Nat) (L p s : Nat) : Prop := wz B L p = slen s ∧ ∀ j, j < slen s → B (p + j) = sc s j
theorem wz_le {B : Nat → Nat} {L p : Nat} (hp : p ≤ L) : p + wz B L p ≤ L := by
  have := fw_ok (isLt B) hp
  unfold wz
  omega
theorem cp_wordSize {r t m : OV} {B : Nat → Nat} {L p : Nat} {f : Int32} (tx : TX B L t m) (hp : p ≤ L) (h : RD r L p f) {post : Int32 → Prop} (hq : post (nI (wz B L p))) : PX2_wordSize r t post := by
  obtain ⟨l4, tx⟩ := tx
  obtain ⟨s1, s2, s3, s4⟩ := fw_ok (isLt B) hp
  unfold PX2_wordSize
  rw [h.2.1]
  rintro _ rfl
  have b41 : PX2_wordSize_b41 r t post (nI (fw (isLt B) L p)) := by
    unfold PX2_wordSize_b41
    rw [h.2.1, pk_sub s1]
    exact hq
  refine fr_fw (W := fun n i => PX2_wordSize_L5 r t post n (nI i)) (isLt B) L p hp ?_ ?_
  · intro n
    show PX2_wordSize_L5 r t post (n + 1) (nI (fw (isLt B) L p))
    unfold PX2_wordSize_L5
    rw [h.1, nI_31 (show fw (isLt B) L p < 1000 by omega)]
    by_cases c : fw (isLt B) L p < L
    · have nl : ¬ (97 ≤ B (fw (isLt B) L p) ∧ B (fw (isLt B) L p) ≤ 122) := s4 c
      have bb := (tx _ c).1
      rw [(tx _ c).2.1]
      refine br_f (fr_nle c (by omega)) ⟨vp_in_q (by omega) (by omega), br_c (fun _ => b41) (fun g => ⟨vp_in_q (by omega) (by omega), br_c (fun _ => b41) (fun g2 => absurd ⟨?_, ?_⟩ nl)⟩)⟩
      · rcases Nat.lt_or_ge (B (fw (isLt B) L p)) 97 with u | u
        · exact absurd (nI_lt (b := 97) u (by omega)) g
        · exact u
      · rcases Nat.lt_or_ge 122 (B (fw (isLt B) L p)) with u | u
        · exact absurd (nI_lt (a := 122) u (by omega)) g2
        · exact u
    · exact br_t (fr_le (by omega) (by omega)) b41
  · intro n i h1 h2 h3 hw
    have h3' : 97 ≤ B i ∧ B i ≤ 122 := h3
    show PX2_wordSize_L5 r t post (n + 1) (nI i)
    unfold PX2_wordSize_L5
    rw [h.1, nI_31 (show i < 1000 by omega), (tx i h2).2.1]
    refine br_f (fr_nle h2 (by omega)) ⟨vp_in_q (by omega) (by omega), br_f (nI_nlt (b := 97) h3'.1 (by omega)) ⟨vp_in_q (by omega) (by omega), br_f (nI_nlt (a := 122) h3'.2 (by omega)) ?_⟩⟩
    rintro _ rfl
    rw [nI_1]
    exact hw
theorem mp_stood {m t : OV} {B : Nat → Nat} {L p s : Nat} {f : Int32} (tx : TX B L t m) (hs : s < 30) (hp : p ≤ L) (h : RM m L p f) {post : Int32 → Prop} (hq : post (zb (MT B L p s))) : PX9_stood m s post := by
  obtain ⟨l4, tx⟩ := tx
  obtain ⟨s1, s2, s3, s4⟩ := fw_ok (isLt B) hp
  have sl := sl_all s hs
  unfold PX9_stood
  rw [h.2.1]
  rintro _ rfl
  have b41 : PX9_stood_b41 m s post (nI (fw (isLt B) L p)) := by
    unfold PX9_stood_b41
    rw [h.2.1, pk_sub s1]
    refine ⟨hs, cp_len hs ?_⟩
    have ewz : fw (isLt B) L p - p = wz B L p := rfl
    rw [ewz]
    refine br_nc (fun g => ⟨1, ?_⟩) (fun g => ?_)
    · rw [zb_f (fun y : MT B L p s => g (by rw [y.1]))] at hq
      unfold PX9_stood_L63
      exact ⟨hs, cp_len hs (br_f (nI_nle sl.1 (by omega)) (br_t rfl hq))⟩
    · have ez : wz B L p = slen s := by
        have := wz_le (B := B) hp
        exact nI_inj (by omega) (by omega) g
      refine fr_rel (fun n j (y : Int32) => PX9_stood_L63 m s post n y (nI j)) (fun j y => (y = 1 ∧ ∀ i, i < j → B (p + i) = sc s i) ∨ (y = 0 ∧ ¬ MT B L p s)) (slen s) 1 (Or.inl ⟨rfl, fun i hi => absurd hi (Nat.not_lt_zero i)⟩) ?_ ?_
      · intro n y cs
        unfold PX9_stood_L63
        refine ⟨hs, cp_len hs (br_t (Int32.le_refl _) ?_)⟩
        rcases cs with ⟨ey, all⟩ | ⟨ey, no⟩
        · rw [ey]
          rw [zb_t ⟨ez, all⟩] at hq
          exact hq
        · rw [ey]
          rw [zb_f no] at hq
          exact hq
      · intro n j y hj cs next
        unfold PX9_stood_L63
        refine ⟨hs, cp_len hs (br_f (fr_nle hj (by omega)) ?_)⟩
        rcases cs with ⟨ey, all⟩ | ⟨ey, no⟩
        · have wl := wz_le (B := B) hp
          have pj : p + j < L := by omega
          rw [ey, h.2.1, nI_add, nI_31 (show p + j < 1000 by omega), (tx _ pj).2.2]
          refine br_f (by decide) ⟨vp_in_q (by omega) (by omega), hs, cp_chAt hs hj ?_⟩
          have se := sg_eq _ (tx _ pj).1 _ (sc_all s hs j hj).2
          refine br_nc (fun g2 => ?_) (fun g2 => ?_)
          · rintro _ rfl
            rw [nI_1]
            exact next 0 (Or.inr ⟨rfl, fun y => g2 (se.mpr (y.2 j hj))⟩)
          · rintro _ rfl
            rw [nI_1]
            refine next 1 (Or.inl ⟨rfl, fun i hi => ?_⟩)
            by_cases e : i = j
            · rw [e]; exact se.mp g2
            · exact all i (by omega)
        · rw [zb_f no] at hq
          rw [ey]
          exact br_t rfl hq
  refine fr_fw (W := fun n i => PX9_stood_L5 m s post n (nI i)) (isLt B) L p hp ?_ ?_
  · intro n
    show PX9_stood_L5 m s post (n + 1) (nI (fw (isLt B) L p))
    unfold PX9_stood_L5
    rw [h.1, nI_31 (show fw (isLt B) L p < 1000 by omega)]
    by_cases c : fw (isLt B) L p < L
    · have nl : ¬ (97 ≤ B (fw (isLt B) L p) ∧ B (fw (isLt B) L p) ≤ 122) := s4 c
      have sg := sg_all _ (tx _ c).1
      rw [(tx _ c).2.2, sg.2.1, sg.2.2]
      exact br_f (fr_nle c (by omega)) ⟨vp_in_q (by omega) (by omega), br_c (fun _ => b41) (fun g => ⟨vp_in_q (by omega) (by omega), br_c (fun _ => b41) (fun g2 => absurd (by omega) nl)⟩)⟩
    · exact br_t (fr_le (by omega) (by omega)) b41
  · intro n i h1 h2 h3 hw
    have h3' : 97 ≤ B i ∧ B i ≤ 122 := h3
    have sg := sg_all _ (tx _ h2).1
    show PX9_stood_L5 m s post (n + 1) (nI i)
    unfold PX9_stood_L5
    rw [h.1, nI_31 (show i < 1000 by omega), (tx i h2).2.2, sg.2.1, sg.2.2]
    refine br_f (fr_nle h2 (by omega)) ⟨vp_in_q (by omega) (by omega), br_f (by omega) ⟨vp_in_q (by omega) (by omega), br_f (by omega) ?_⟩⟩
    rintro _ rfl
    rw [nI_1]
    exact hw
theorem cp_isSame {r t m : OV} {B : Nat → Nat} {L p s fm : Nat} {f : Int32} (tx : TX B L t m) (hs : s < 30) (hp : p ≤ L) (h : RD r L p f) {z : Nat} (hz : p + z ≤ L) (hf : fm + z ≤ slen s) {post : Int32 → Prop} (hq : post (zb (∀ j, j < z → B (p + j) = sc s (fm + j)))) : PX2_isSame r t s (nI fm) (nI z) post := by
  obtain ⟨l4, tx⟩ := tx
  have sl := sl_all s hs
  unfold PX2_isSame
  have step : ∀ i, i < z → ∀ (n : Nat), (B (p + i) = sc s (fm + i) → PX2_isSame_L3 r t s post n (nI fm) (nI z) (nI (i + 1))) → (¬ B (p + i) = sc s (fm + i) → post 0) → PX2_isSame_L3 r t s post (n + 1) (nI fm) (nI z) (nI i) := by
    intro i hi n h1 h0
    unfold PX2_isSame_L3
    rw [h.1, h.2.1, nI_add, nI_add, nI_31 (show p + i < 1000 by omega), (tx (p + i) (by omega)).2.1]
    refine br_f (fr_nle hi (by omega)) (br_f (fr_nle (by omega) (by omega)) ⟨hs, cp_len hs (br_f (fr_nle (by omega) (by omega)) ⟨vp_in_q (by omega) (by omega), hs, cp_chAt hs (by omega) (br_c (fun g => ?_) (fun g => h0 (fun y => g (by rw [y]))))⟩)⟩)
    rintro _ rfl
    rw [nI_1]
    exact h1 ((nI_eq (by have := (tx (p + i) (by omega)).1; omega) (by have := (sc_all s hs (fm + i) (by omega)).2; omega)).mp g)
  refine fr_find (fun n i => PX2_isSame_L3 r t s post n (nI fm) (nI z) (nI i)) z (fun i => ¬ B (p + i) = sc s (fm + i)) ?_ ?_ ?_
  · intro hno n
    unfold PX2_isSame_L3
    rw [zb_t (fun j hj => Classical.not_not.mp (hno j hj))] at hq
    exact br_t (Int32.le_refl _) hq
  · intro i hi _ g n
    rw [zb_f (fun y => g (y i hi))] at hq
    exact step i hi n (fun y => absurd y g) (fun _ => hq)
  · intro n i hi g hw
    exact step i hi n (fun _ => hw) (fun y => absurd y g)
def bdW (s i : Nat) : Prop := i = slen s ∨ sc s i = 32
def wst (s : Nat) (i : Nat) : Nat × Nat := itn (fun i q => if i = slen s ∨ sc s i = 32 then (q.1 + 1, i + 1) else q) i (0, 0)
/-- the string s is the words kw 0 .. kw (n - 1), parted by blanks -/
def Tbl (s n : Nat) (kw : Nat → Nat) : Prop := (∀ i, i ≤ slen s → bdW s i → ∃ k, k < n ∧ (wst s i).1 = k ∧ (wst s i).2 ≤ i ∧ i - (wst s i).2 = slen (kw k) ∧ ∀ j, j < slen (kw k) → sc s ((wst s i).2 + j) = sc (kw k) j) ∧ ∀ k, k < n → ∃ i, i ≤ slen s ∧ bdW s i ∧ (wst s i).1 = k
theorem wst_le (s : Nat) : ∀ i, (wst s i).1 ≤ i ∧ (wst s i).2 ≤ i
  | 0 => ⟨Nat.le_refl 0, Nat.le_refl 0⟩
  | i + 1 => by
    have ih := wst_le s i
    have e : wst s (i + 1) = if i = slen s ∨ sc s i = 32 then ((wst s i).1 + 1, i + 1) else wst s i := rfl
    rw [e]
    split
    · exact ⟨by show (wst s i).1 + 1 ≤ i + 1; omega, Nat.le_refl _⟩
    · exact ⟨by omega, by omega⟩
theorem cp_word {r t m : OV} {B : Nat → Nat} {L p s n : Nat} {kw : Nat → Nat} {f : Int32} (tx : TX B L t m) (hs : s < 30) (hkw : ∀ k, k < n → kw k < 30) (tb : Tbl s n kw) (hp : p ≤ L) (h : RD r L p f) {post : Int32 → OV → Prop} (h0 : (∀ k, k < n → ¬ MT B L (sk B L p) (kw k)) → ∀ r', RD r' L (sk B L p) f → post (-1) r') (h1 : ∀ k, k < n → MT B L (sk B L p) (kw k) → ∀ r', RD r' L (sk B L p) f → post (nI k) r') : PX2_word r t s post := by
  have l4 := tx.1
  have sl := sl_all s hs
  unfold PX2_word
  refine cp_next tx hp h (fun r1 hr1 => ?_)
  have sp : sk B L p ≤ L := (fw_ok (isBl B) hp).2.1
  refine cp_wordSize tx sp hr1 ?_
  have wl := wz_le (B := B) sp
  -- at a boundary
  have b47 : ∀ i, i ≤ slen s → bdW s i → ∀ (k2 : Nat) (K : Int32 → Int32 → Int32 → Int32 → OV → Prop), ((∀ k, k < n → (wst s i).1 = k → ¬ MT B L (sk B L p) (kw k)) → K (nI (wz B L (sk B L p))) (nI (wst s (i + 1)).1) (nI (wst s (i + 1)).2) (nI (i + 1)) r1) → PX2_word_b47 t s K post (nI (wz B L (sk B L p))) (nI (wst s i).1) (nI (wst s i).2) (nI i) r1 := by
    intro i hi bd _ K hK
    obtain ⟨k, hk, e1, e2, e3, e4⟩ := tb.1 i hi bd
    have slk := sl_all (kw k) (hkw k hk)
    have wle := wst_le s i
    have es : wst s (i + 1) = ((wst s i).1 + 1, i + 1) := by
      show (if i = slen s ∨ sc s i = 32 then ((wst s i).1 + 1, i + 1) else wst s i) = _
      exact if_pos bd
    rw [es] at hK
    have b73 : ¬ MT B L (sk B L p) (kw k) → PX2_word_b73 t s K post (nI (wz B L (sk B L p))) (nI (wst s i).1) (nI i) r1 := by
      intro no
      unfold PX2_word_b73
      rw [nI_1, nI_1]
      rintro _ rfl _ rfl _ rfl
      exact hK (fun k' hk' e' => by rw [← e', e1]; exact no)
    unfold PX2_word_b47
    rw [pk_sub e2, e3]
    refine br_c (fun g => b73 (fun y => ?_)) (fun g => br_nc (fun g2 => b73 (fun y => g2 (by rw [y.1]))) (fun g2 => ?_))
    · rw [y.1] at g
      exact nI_nle slk.1 (by omega) g
    · have ez : wz B L (sk B L p) = slen (kw k) := (nI_inj (by omega) (by omega) g2).symm
      refine cp_isSame tx hs sp hr1 (by omega) (by omega) ?_
      by_cases mt : MT B L (sk B L p) (kw k)
      · rw [zb_t (fun j hj => by rw [e4 j (by omega)]; exact mt.2 j (by omega))]
        refine br_f (by decide) ?_
        have q := h1 k hk mt r1 hr1
        rw [← e1] at q
        exact q
      · rw [zb_f (fun y => mt ⟨ez, fun j hj => by rw [← e4 j hj]; exact y j (by omega)⟩)]
        exact br_t rfl (b73 mt)
  refine fr_rel (fun k2 i (_ : Unit) => PX2_word_L18 t s post k2 (nI (wz B L (sk B L p))) (nI (wst s i).1) (nI (wst s i).2) (nI i) r1) (fun i _ => ∀ j, j < i → j ≤ slen s → bdW s j → ∀ k, k < n → (wst s j).1 = k → ¬ MT B L (sk B L p) (kw k)) (slen s + 1) () (fun j hj => absurd hj (Nat.not_lt_zero j)) ?_ ?_
  · intro k2 _ no
    unfold PX2_word_L18
    refine ⟨hs, cp_len hs (br_t (nI_lt (by omega) (by omega)) (h0 (fun k hk => ?_) r1 hr1))⟩
    obtain ⟨i, hi, bd, e⟩ := tb.2 k hk
    exact no i (by omega) hi bd k hk e
  · intro k2 i _ hi no next
    have cont : (bdW s i → ∀ k, k < n → (wst s i).1 = k → ¬ MT B L (sk B L p) (kw k)) → PX2_word_L18 t s post k2 (nI (wz B L (sk B L p))) (nI (wst s (i + 1)).1) (nI (wst s (i + 1)).2) (nI (i + 1)) r1 := by
      intro c
      refine next () (fun j hj hj2 bd => ?_)
      by_cases e : j = i
      · rw [e] at bd ⊢; exact c bd
      · exact no j (by omega) hj2 bd
    unfold PX2_word_L18
    refine ⟨hs, cp_len hs (br_f (nI_nlt (by omega) (by omega)) ⟨hs, cp_len hs (br_c (fun g => ?_) (fun g => ⟨hs, cp_chAt hs ?_ (br_nc (fun g2 => ?_) (fun g2 => ?_))⟩))⟩)⟩
    · have ei : i = slen s := nI_inj (by omega) (by omega) g
      exact b47 i (by omega) (Or.inl ei) 0 _ (fun c => cont (fun _ => c))
    · rcases Nat.lt_or_ge i (slen s) with u | u
      · exact u
      · exact absurd (by rw [show i = slen s by omega]) g
    · rintro _ rfl
      have il : i < slen s := by
        rcases Nat.lt_or_ge i (slen s) with u | u
        · exact u
        · exact absurd (by rw [show i = slen s by omega]) g
      have nb : ¬ bdW s i := fun y => by
        rcases y with y | y
        · omega
        · exact g2 (by rw [y]; rfl)
      have es : wst s (i + 1) = wst s i := by
        show (if i = slen s ∨ sc s i = 32 then ((wst s i).1 + 1, i + 1) else wst s i) = _
        exact if_neg nb
      have q := cont (fun y => absurd y nb)
      rw [es, ← nI_1] at q
      exact q
    · have il : i < slen s := by
        rcases Nat.lt_or_ge i (slen s) with u | u
        · exact u
        · exact absurd (by rw [show i = slen s by omega]) g
      have e32 : sc s i = 32 := nI_inj (b := 32) (by have := (sc_all s hs i il).2; omega) (by omega) g2
      exact b47 i (by omega) (Or.inr e32) 0 _ (fun c => cont (fun _ => c))
