/-! 975: facts and tests: what both sides do -/
def TB (pm : OV → Prop) (n : Nat) (m16 : OV) : Prop := PX9_top m16 (fun r18 => ((¬ r18 = ((12 : Int32)) → PX9_test_L9 pm n 0 ((0 : Int32)) m16) ∧ (r18 = ((12 : Int32)) → (PX9_sign m16 (fun r21 => ((r21 = ((93 : Int32)) → PX9_test_b164 (PX9_test_L9 pm n) pm 0 1 m16) ∧ (¬ r21 = ((93 : Int32)) → (PX9_fails m16 ((0 : Int32)) (m16.1 31) (fun v_m24 => PX9_test_b164 (PX9_test_L9 pm n) pm 0 1 v_m24)))))))))
def AB (pm : OV → Prop) (n : Nat) (m4 : OV) : Prop := PX9_blanks m4 (fun v_m6 => (PX9_stood v_m6 22 (fun r8 => (PX9_stood v_m6 23 (fun r10 => (PX9_answers v_m6 ((10 : Int32)) (fun v_m12 => ((¬ r8 = ((0 : Int32)) → PX9_test_b82 (PX9_test_L9 pm n) pm 1 r8 r10 v_m12) ∧ (r8 = ((0 : Int32)) → ((r10 = ((0 : Int32)) → (PX9_answers v_m12 ((11 : Int32)) (fun v_m16 => TB pm n v_m16))) ∧ (¬ r10 = ((0 : Int32)) → PX9_test_b82 (PX9_test_L9 pm n) pm 1 r8 r10 v_m12)))))))))))
theorem L9_0 {m : OV} {pm : OV → Prop} {n : Nat} (h : m.1 32 = 0) (g : PX9_answers m 9 (AB pm n)) : PX9_test_L9 pm (n + 1) 0 1 m := by
  unfold PX9_test_L9
  exact br_f (by decide) (br_nt h (br_t rfl g))
theorem L9_no {m : OV} {pm : OV → Prop} {n : Nat} {w : Int32} (h : ¬ m.1 32 = 0) (g : pm m) : PX9_test_L9 pm (n + 1) w 1 m := by
  unfold PX9_test_L9
  exact br_f (by decide) (br_nf h g)
theorem L9_end {m : OV} {pm : OV → Prop} {n : Nat} {w : Int32} (g : pm m) : PX9_test_L9 pm (n + 1) w 0 m := by
  unfold PX9_test_L9
  exact br_t rfl g
theorem L9_1 {t m0 m : OV} {B : Nat → Nat} {L s p e k d : Nat} {st : Nat → Int32} {S : List Int32} {pm : OV → Prop} {n : Nat} (tx : TX B L t m0) (w : TS m0 L s p e k st S d m) (hn : MT B L (sk B L p) 21 → ∀ m1, FX IT AT s m m1 → TS m0 L s (sk B L p) e k st S d m1 → ∀ X : OV → Prop, (∀ m2, PX9_test_L9 pm n 1 1 (si m2 31 (m2.1 31 + 3)) → X m2) → PX9_opens m1 9 X) (hb : ¬ MT B L (sk B L p) 21 → chr B L (sk B L p) = 91 → ∀ m1, FX IT AT s m m1 → TS m0 L s (sk B L p) e k st S d m1 → ∀ X : OV → Prop, (∀ m2, PX9_test_L9 pm n 1 1 (si m2 31 (m2.1 31 + 1)) → X m2) → PX9_opens m1 12 X) (hc : ¬ MT B L (sk B L p) 21 → ¬ chr B L (sk B L p) = 91 → ∀ m1, FX IT AT s m m1 → TS m0 L s (sk B L p) e k st S d m1 → ∀ X : OV → Prop, (∀ m2, PX9_test_L9 pm n 0 1 m2 → X m2) → PX9_compared m1 X) : PX9_test_L9 pm (n + 1) 1 1 m := by
  have hp : p ≤ L := (w.1.2.2.2 rfl).1
  have sp : sk B L p ≤ L := (fw_ok (isBl B) hp).2.1
  unfold PX9_test_L9
  refine br_f (by decide) (br_nt w.1.2.1 (br_f (by decide) ?_))
  unfold PX9_fact
  refine mp_blanks (MC_tx tx w.1.1) hp (MS_rm w.1) (fun m1 f1 r1 => ?_)
  have f1' : Fr [31, 32] [] [] [] m m1 := Fr_mono f1 (by decide) (by decide) (by decide) (by decide)
  have ms1 := MS_mv w.1 f1' r1 sp
  have t1 := TS_fr w (FX_31 f1' (by decide) (by decide)) ms1
  have fx : FX IT AT s m m1 := FX_TI f1' (by decide) (Or.inr rfl)
  have txm := MC_tx tx ms1.1
  refine mp_stood txm (show (21:Nat) < 30 by decide) sp r1 ?_
  by_cases y : MT B L (sk B L p) 21
  · rw [zb_t y]
    refine br_f (by decide) (hn y m1 fx t1 _ (fun m2 g => ?_))
    rintro _ rfl _ rfl
    exact br_nt rfl g
  · rw [zb_f y]
    refine br_t rfl (mp_sign txm r1 (by omega) (br_nc (fun z => ?_) (fun z => ?_)))
    · exact hc y z m1 fx t1 _ (fun m2 g => br_nf (by decide) g)
    · refine hb y z m1 fx t1 _ (fun m2 g => ?_)
      rintro _ rfl _ rfl
      exact br_nt rfl g
/-- places, bounds and kinds of a FACT or TEST read -/
def FO (L p e k d p' e' k' C : Nat) (u u' : OV) : Prop := KP e u u' ∧ e ≤ e' ∧ k' ≤ 60 ∧ 1 ≤ C ∧ k + 3 * C ≤ k' ∧ e' + 2 * C + 1 ≤ e + 2 * (k' - k) + (10 - d) * C ∧ p ≤ p' ∧ ∀ τ, τ.length ≤ k → TyU (u'.2.1 0) e e' τ (true :: τ)
/-- the reference from a wanted fact on -/
def FT (m0 : OV) (L s p e k : Nat) (st : Nat → Int32) (S : List Int32) (d : Nat) (F' : Int32) (p' e' k' : Nat) (st' : Nat → Int32) : Prop := ∀ m n (pm : OV → Prop), TS m0 L s p e k st S d m → L + 4 ≤ n + p → (¬ F' = 0 → ∀ m', FX IT AT s m m' → MS m0 L s F' p' e' k' st' m' → pm m') → (F' = 0 → ∀ m' n' a, FX IT AT s m m' → TS m0 L s p' e' k' st' S d m' → L + 2 ≤ n' + p' → S.length + 1 ≤ a → PX9_answers_L0 (AB pm n') a 9 m') → PX9_test_L9 pm n 1 1 m
/-- and a whole test -/
def TT (m0 : OV) (L s p e k : Nat) (st : Nat → Int32) (S0 S : List Int32) (d : Nat) (F' : Int32) (p' e' k' : Nat) (st' : Nat → Int32) : Prop := ∀ m n (pm : OV → Prop), TS m0 L s p e k st S0 d m → L + 4 ≤ n + p → (¬ F' = 0 → ∀ m', FX IT AT s m m' → MS m0 L s F' p' e' k' st' m' → pm m') → (F' = 0 → ∀ m' n', FX IT AT s m m' → TS m0 L s p' e' k' st' S d m' → L + 2 ≤ n' + p' → TB pm n' m') → PX9_test_L9 pm n 1 1 m
def PXf : Type := OV → OV → OV → OV → Int32 → (OV → OV → OV → Prop) → Prop
def FaL (B : Nat → Nat) (t m0 : OV) (L s d : Nat) (R : OV → OV → OV → OV → Int32 → (OV → OV → OV → Prop) → Prop) : Prop := ∀ p e k q r u S G post, CS L 0 p e k q r u → S.length ≤ 3 * d + 2 → k ≤ 60 → e ≤ 2 * k + 8 * G → 3 * G ≤ k → (∀ F' p' e' k' C q' r' u', CS L F' p' e' k' q' r' u' → (F' = 0 → FO L p e k d p' e' k' C u u') → FT m0 L s p e k (u.2.1 0) S d F' p' e' k' (u'.2.1 0) → post q' r' u') → R q r u t (nI d) post
def TeL (B : Nat → Nat) (t m0 : OV) (L s d : Nat) (R : OV → OV → OV → OV → Int32 → (OV → OV → OV → Prop) → Prop) : Prop := ∀ p e k q r u S G post, CS L 0 p e k q r u → S.length ≤ 3 * d → (topS S = -1 ∨ topS S = 12) → k ≤ 60 → e ≤ 2 * k + 8 * G → 3 * G ≤ k → (∀ F' p' e' k' C q' r' u', CS L F' p' e' k' q' r' u' → (F' = 0 → FO L p e k d p' e' k' C u u' ∧ sk B L p' = p') → TT m0 L s p e k (u.2.1 0) S S d F' p' e' k' (u'.2.1 0) → post q' r' u') → R q r u t (nI d) post
theorem MT_not {B : Nat → Nat} {L q : Nat} (hq : q ≤ L) (y : MT B L q 21) : q + 3 ≤ L ∧ ¬ chr B L q = 91 := by
  have l3 : slen 21 = 3 := s_lens.2.2.1
  have w := wz_le (B := B) hq
  rw [y.1, l3] at w
  refine ⟨w, fun z => ?_⟩
  unfold chr at z
  rw [if_pos (by omega)] at z
  have b0 := y.2 0 (by omega)
  rw [Nat.add_zero] at b0
  rw [b0] at z
  exact absurd z (by decide +kernel)
theorem MS_p {m0 m m' : OV} {L s p e k : Nat} {st : Nat → Int32} {F : Int32} (w : MS m0 L s F p e k st m) (nz : ¬ F = 0) (f : Fr [31] [] [] [] m m') (q : Nat) (hq : q ≤ L + 1) (h : m'.1 31 = nI q) {p' e' k' : Nat} {st' : Nat → Int32} : MS m0 L s F p' e' k' st' m' := MS_F _ _ _ _ (MC_fr w.1 f (by decide) (by decide)) nz ((f.1 32 (by decide)).trans w.2.1) ⟨q, hq, h⟩
theorem TS_p {m0 m : OV} {L s p e k d : Nat} {st : Nat → Int32} {S : List Int32} (w : TS m0 L s p e k st S d m) (p' : Nat) (hp : p' ≤ L) : TS m0 L s p' e k st S d (si m 31 (nI p')) := by
  have f : Fr [31, 32] [] [] [] m (si m 31 (nI p')) := Fr_si (by decide) Fr_refl
  exact TS_fr w (FX_31 f (by decide) (by decide)) (MS_mv w.1 f ⟨w.1.1.2.1, rfl, w.1.2.1⟩ hp)
theorem FX_p {m : OV} {s : Nat} {x : Int32} : FX IT AT s m (si m 31 x) := FX_TI (I := [31]) (A := []) (Fr_si (by decide) Fr_refl) (by decide) (Or.inr rfl)
theorem MS_any {m0 m : OV} {L s p e k p' e' k' : Nat} {F : Int32} {st st' : Nat → Int32} (nz : ¬ F = 0) (w : MS m0 L s F p e k st m) : MS m0 L s F p' e' k' st' m := MS_F _ _ _ _ w.1 nz w.2.1 w.2.2.1
