/-! 972: a sign; a sum behind a fault -/
theorem mp_value_no {t m : OV} {B : Nat → Nat} {L p : Nat} {F : Int32} (tx : TX B L t m) (nz : ¬ F = 0) (hp : p ≤ L) (h : RM m L p F) (h39 : m.1 39 = 14) {pm : OV → Prop} (hq : ∀ m' p', Fr [31, 32, 37] [] [] [] m m' → p' ≤ L → RM m' L p' F → pm m') : PX9_value m pm := by
  have sp : sk B L p ≤ L := (fw_ok (isBl B) hp).2.1
  unfold PX9_value
  refine mp_blanks tx hp h (fun m1 f1 r1 => ?_)
  rintro _ rfl
  rw [r1.2.1]
  have tx1 := TX_fr f1 (by decide) tx
  have g1 : Fr [31, 32, 37] [] [] [] m m1 := Fr_mono f1 (by decide) (by decide) (by decide) (by decide)
  have fin : ∀ m2 p', Fr [31, 32, 37] [] [] [] m m2 → p' ≤ L → RM m2 L p' F → ∀ pl {X : OV → Prop}, (∀ m3, Fr [31, 32, 37] [] [] [] m m3 → RM m3 L p' F → X m3) → PX9_isCounted m2 pl X := by
    intro m2 p' g2 hp' r2 pl X hX
    refine mp_counted_no nz r2.2.2 (fun m3 f3 e3 => hX m3 (Fr_trans g2 (Fr_mono f3 (by decide) (by decide) (by decide) (by decide))) ⟨(f3.1 30 (by decide)).trans r2.1, (f3.1 31 (by decide)).trans r2.2.1, e3⟩)
  refine mp_isDigit tx1 (by omega) r1 (fun _ => br_f (by decide) ?_) (fun _ => br_t rfl ⟨15, ?_⟩)
  · refine mp_digits tx1 sp r1 (fun m2 f2 r2 => ?_)
    rw [fst_n nz] at r2
    have dp : sk B L p + dgn B L (sk B L p) ≤ L := by
      have := fw_ok (isDg B) sp
      unfold dgn
      omega
    refine fin m2 _ (Fr_trans g1 (Fr_mono f2 (by decide) (by decide) (by decide) (by decide))) dp r2 _ (fun m3 g3 r3 => ?_)
    exact mp_entry_no (by rw [r3.2.2]; exact nz) (hq m3 _ g3 dp r3)
  · have h39' : m1.1 39 = 14 := (f1.1 39 (by decide)).trans h39
    refine mp_words tx1 sp r1 h39' (fun j hj y => ?_) (fun _ => ?_) 14 0 (by omega) (fun i hi => absurd hi (by omega))
    · unfold PX9_value_b62
      refine br_nf (fun z => ?_) ?_
      · rw [h39'] at z
        have : j = 14 := nI_inj (b := 14) (by omega) (by omega) z
        omega
      · have wz' := wz_le (B := B) sp
        refine fin m1 _ g1 sp r1 _ (fun m3 g3 r3 => ?_)
        refine mp_wordOf hj (cp_len (kwR_30 j hj) ?_)
        rintro _ rfl _ rfl
        refine mp_entry_no (by show ¬ m3.1 32 = 0; rw [r3.2.2]; exact nz) (hq _ (sk B L p + wz B L (sk B L p)) (Fr_si (by decide) g3) wz' ⟨r3.1, ?_, r3.2.2⟩)
        rw [si_at, r3.2.1, nI_add, y.1]
    · unfold PX9_value_b62
      refine br_nt h39'.symm (mp_fails (k := 0) r1 ?_)
      intro m3 f3 r3
      rw [fst_n nz] at r3
      exact hq m3 _ (Fr_trans g1 (Fr_mono f3 (by decide) (by decide) (by decide) (by decide))) sp r3
theorem mp_sum_no {t m : OV} {B : Nat → Nat} {L p : Nat} {F : Int32} (tx : TX B L t m) (nz : ¬ F = 0) (hp : p ≤ L) (h : RM m L p F) (h39 : m.1 39 = 14) {pm : OV → Prop} (hq : ∀ m' p', Fr [31, 32, 37] [] [] [] m m' → p' ≤ L → RM m' L p' F → pm m') : PX9_sum m pm := by
  unfold PX9_sum PX9_term
  refine mp_value_no tx nz hp h h39 (fun m1 p1 f1 hp1 r1 => mp_blanks (TX_fr f1 (by decide) tx) hp1 r1 (fun m2 f2 r2 => ⟨1, ?_⟩))
  have nz2 : ¬ m2.1 32 = 0 := by rw [r2.2.2]; exact nz
  unfold PX9_term_L8
  refine br_nf nz2 ⟨1, ?_⟩
  unfold PX9_sum_L4
  exact br_nf nz2 (hq m2 _ (Fr_trans f1 (Fr_mono f2 (by decide) (by decide) (by decide) (by decide))) (fw_ok (isBl B) hp1).2.1 r2)
noncomputable def oC (B : Nat → Nat) (L p : Nat) : Int32 := if chr B L p = 60 then (if chr B L (p + 1) = 61 then -21 else -20) else if chr B L p = 61 then -22 else if chr B L p = 62 then (if chr B L (p + 1) = 61 then -23 else -24) else 0
noncomputable def nC (B : Nat → Nat) (L p : Nat) : Nat := if oC B L p = -21 then 2 else if oC B L p = -23 then 2 else 1
def kC (x : Int32) : Int32 := if x = -20 then 4 else if x = -21 then 5 else if x = -22 then 6 else if x = -23 then 7 else 8
theorem oC_lt {B : Nat → Nat} {L p : Nat} (h : ¬ oC B L p = 0) : p < L := by
  refine chr_lt (B := B) (fun y => h ?_)
  unfold oC
  rw [y]
  rfl
theorem oC_cs (B : Nat → Nat) (L p : Nat) : (¬ chr B L p = 60 ∧ ¬ chr B L p = 61 ∧ ¬ chr B L p = 62 ∧ oC B L p = 0) ∨ (chr B L p = 60 ∧ chr B L (p + 1) = 61 ∧ oC B L p = -21) ∨ (chr B L p = 60 ∧ ¬ chr B L (p + 1) = 61 ∧ oC B L p = -20) ∨ (chr B L p = 61 ∧ oC B L p = -22) ∨ (chr B L p = 62 ∧ chr B L (p + 1) = 61 ∧ oC B L p = -23) ∨ (chr B L p = 62 ∧ ¬ chr B L (p + 1) = 61 ∧ oC B L p = -24) := by
  unfold oC
  by_cases a : chr B L p = 60
  · by_cases b : chr B L (p + 1) = 61
    · exact Or.inr (Or.inl ⟨a, b, by rw [if_pos a, if_pos b]⟩)
    · exact Or.inr (Or.inr (Or.inl ⟨a, b, by rw [if_pos a, if_neg b]⟩))
  · by_cases c : chr B L p = 61
    · exact Or.inr (Or.inr (Or.inr (Or.inl ⟨c, by rw [if_neg a, if_pos c]⟩)))
    · by_cases d : chr B L p = 62
      · by_cases b : chr B L (p + 1) = 61
        · exact Or.inr (Or.inr (Or.inr (Or.inr (Or.inl ⟨d, b, by rw [if_neg a, if_neg c, if_pos d, if_pos b]⟩))))
        · exact Or.inr (Or.inr (Or.inr (Or.inr (Or.inr ⟨d, b, by rw [if_neg a, if_neg c, if_pos d, if_neg b]⟩))))
      · exact Or.inl ⟨a, c, d, by rw [if_neg a, if_neg c, if_neg d]⟩
theorem nC_le {B : Nat → Nat} {L p : Nat} (h : ¬ oC B L p = 0) : p + nC B L p ≤ L := by
  have lt := oC_lt h
  unfold nC
  rcases oC_cs B L p with ⟨_, _, _, e⟩ | ⟨_, b, e⟩ | ⟨_, b, e⟩ | ⟨_, e⟩ | ⟨_, b, e⟩ | ⟨_, b, e⟩
  · exact absurd e h
  · have : p + 1 < L := chr_lt (B := B) (by rw [b]; decide)
    rw [e, if_pos rfl]
    omega
  · rw [e, if_neg (by decide), if_neg (by decide)]
    omega
  · rw [e, if_neg (by decide), if_neg (by decide)]
    omega
  · have : p + 1 < L := chr_lt (B := B) (by rw [b]; decide)
    rw [e, if_neg (by decide), if_pos rfl]
    omega
  · rw [e, if_neg (by decide), if_neg (by decide)]
    omega
theorem cp_behind {r t m : OV} {B : Nat → Nat} {L p : Nat} {f : Int32} (tx : TX B L t m) (hp : p ≤ L) (h : RD r L p f) {post : Int32 → Prop} (hq : post (chr B L (p + 1))) : PX2_behind r t post := by
  have l4 := tx.1
  unfold PX2_behind
  rw [h.1, h.2.1, nI_1]
  unfold chr at hq
  by_cases c : p + 1 < L
  · rw [if_pos c] at hq
    refine br_f (fr_nle c (by omega)) ⟨vp_in_q (by omega) (by omega), ?_⟩
    rw [nI_31 (show p + 1 < 1000 by omega), (tx.2 _ c).2.1]
    exact hq
  · rw [if_neg c] at hq
    exact br_t (fr_le (by omega) (by omega)) hq
theorem cp_comp {B : Nat → Nat} {L p : Nat} {post : Int32 → Prop} (h : post (oC B L p)) : PX4_comparison (chr B L p) (chr B L (p + 1)) post := by
  unfold PX4_comparison
  unfold oC at h
  exact br_if (fun _ h => br_ifn (fun _ h => h) (fun _ h => h) h) (fun _ => br_if (fun _ h => h) (fun _ => br_if (fun _ h => br_ifn (fun _ h => h) (fun _ h => h) h) (fun _ h => h))) h
theorem cp_passm {r t : OV} {L p n : Nat} {f : Int32} (h : RD r L p f) (hL : L ≤ 400) (hp : p ≤ L) (hn : n ≤ 2) {post : OV → Prop} (hq : ∀ r' p', p' ≤ L → RD r' L p' f → post r') : PX2_pass r t (nI n) post := by
  rcases Nat.lt_or_ge L (p + n) with c | c
  · unfold PX2_pass
    rw [h.1, h.2.1, nI_add, if_neg (nI_nlt (by omega) (by omega))]
    rintro _ rfl _ rfl
    exact hq _ L (Nat.le_refl L) ⟨h.1, rfl, h.2.2⟩
  · exact cp_pass h hL c (fun r' h' => hq r' _ c h')
theorem mp_cmp_tail {t m : OV} {B : Nat → Nat} {L p : Nat} {f : Int32} (tx : TX B L t m) (h : RM m L p f) (nz : ¬ oC B L p = 0) {pm : OV → Prop} (hq : ∀ m' (pm' : OV → Prop), Fr [31] [] [] [] m m' → RM m' L (p + nC B L p) f → (∀ m3, PX9_entry m3 (kC (oC B L p)) 0 pm → pm' m3) → PX9_sum m' pm') : (∀ x3 : Int32, x3 = m.1 31 + 1 → ∀ v4 : OV, v4 = si m 31 x3 → ((chr B L p = 61 → PX9_compared_b75 pm 0 (chr B L p) v4) ∧ (¬ chr B L p = 61 → PX9_sign v4 (fun r6 => ((¬ r6 = 61 → PX9_compared_b75 pm 0 (chr B L p) v4) ∧ (r6 = 61 → PX9_compared_b75 pm 1 (chr B L p) v4)))))) := by
  have lt := oC_lt nz
  have l4 := tx.1
  rw [h.2.1, nI_1]
  rintro _ rfl _ rfl
  have fr4 : Fr [31] [] [] [] m (si m 31 (nI (p + 1))) := Fr_si (by decide) Fr_refl
  have rm4 : RM (si m 31 (nI (p + 1))) L (p + 1) f := ⟨h.1, rfl, h.2.2⟩
  have tx4 := TX_fr fr4 (by decide) tx
  have sg : ∀ {post : Int32 → Prop}, post (chr B L (p + 1)) → PX9_sign (si m 31 (nI (p + 1))) post := fun hq => mp_sign tx4 rm4 (by omega) hq
  -- the place behind, and the last entry
  have b90 : ∀ (n : Nat) (y1 y2 : Int32), 1 + n = nC B L p → (∀ m3, PX9_entry m3 (kC (oC B L p)) 0 pm → ((¬ y1 = ((61 : Int32)) → ((¬ y1 = ((60 : Int32)) → ((y2 = ((0 : Int32)) → PX9_compared_b139 pm ((8 : Int32)) m3) ∧ (¬ y2 = ((0 : Int32)) → PX9_compared_b139 pm ((7 : Int32)) m3))) ∧ (y1 = ((60 : Int32)) → ((y2 = ((0 : Int32)) → PX9_compared_b139 pm ((4 : Int32)) m3) ∧ (¬ y2 = ((0 : Int32)) → PX9_compared_b139 pm ((5 : Int32)) m3))))) ∧ (y1 = ((61 : Int32)) → PX9_compared_b139 pm ((6 : Int32)) m3))) → PX9_compared_b90 pm (nI (p + 1)) (nI n) y1 y2 (si m 31 (nI (p + 1))) := by
    intro n y1 y2 en hk
    unfold PX9_compared_b90
    rw [nI_add]
    rintro _ rfl _ rfl
    rw [si_si]
    refine hq _ _ (Fr_si (by decide) Fr_refl) ⟨h.1, ?_, h.2.2⟩ hk
    rw [si_at, ← en, Nat.add_assoc]
  have b75 : ∀ (z : Int32) (n : Nat) (y1 : Int32), ((z = 0 ∧ n = 0) ∨ (z = 1 ∧ n = 1)) → PX9_compared_b90 pm (nI (p + 1)) (nI n) y1 z (si m 31 (nI (p + 1))) → PX9_compared_b75 pm z y1 (si m 31 (nI (p + 1))) := by
    intro z n y1 cs g
    unfold PX9_compared_b75
    rw [si_at]
    rcases cs with ⟨rfl, rfl⟩ | ⟨rfl, rfl⟩
    · exact br_t rfl g
    · exact br_f (by decide) g
  unfold nC at b90
  rcases oC_cs B L p with ⟨_, _, _, e⟩ | ⟨a, b, e⟩ | ⟨a, b, e⟩ | ⟨a, e⟩ | ⟨a, b, e⟩ | ⟨a, b, e⟩
  · exact absurd e nz
  · rw [e, if_pos rfl] at b90
    rw [a]
    exact br_f (by decide) (sg (br_nt b (b75 1 1 _ (Or.inr ⟨rfl, rfl⟩) (b90 1 60 1 rfl (fun m3 g => br_nf (by decide) (br_nt rfl (br_f (by decide) g)))))))
  · rw [e, if_neg (by decide), if_neg (by decide)] at b90
    rw [a]
    exact br_f (by decide) (sg (br_nf b (b75 0 0 _ (Or.inl ⟨rfl, rfl⟩) (b90 0 60 0 rfl (fun m3 g => br_nf (by decide) (br_nt rfl (br_t rfl g)))))))
  · rw [e, if_neg (by decide), if_neg (by decide)] at b90
    rw [a]
    exact br_t rfl (b75 0 0 _ (Or.inl ⟨rfl, rfl⟩) (b90 0 61 0 rfl (fun m3 g => br_nt rfl g)))
  · rw [e, if_neg (by decide), if_pos rfl] at b90
    rw [a]
    exact br_f (by decide) (sg (br_nt b (b75 1 1 _ (Or.inr ⟨rfl, rfl⟩) (b90 1 62 1 rfl (fun m3 g => br_nf (by decide) (br_nf (by decide) (br_f (by decide) g)))))))
  · rw [e, if_neg (by decide), if_neg (by decide)] at b90
    rw [a]
    exact br_f (by decide) (sg (br_nf b (b75 0 0 _ (Or.inl ⟨rfl, rfl⟩) (b90 0 62 0 rfl (fun m3 g => br_nf (by decide) (br_nf (by decide) (br_t rfl g)))))))
