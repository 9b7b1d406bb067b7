/-! 977: a test -/
def tru (n : Nat) (τ : List Bool) : List Bool := match n with
  | 0 => τ
  | n + 1 => true :: tru n τ
theorem tru_len : ∀ n τ, (tru n τ).length = n + τ.length
  | 0, τ => (Nat.zero_add _).symm
  | n + 1, τ => by
    show (tru n τ).length + 1 = n + 1 + τ.length
    rw [tru_len n τ]
    omega
def jn (x c : Int32) (S : List Int32) : List Int32 := if x = 0 then S else c :: S
theorem jn_0 (c : Int32) (S : List Int32) : jn 0 c S = S := rfl
theorem jn_n {x : Int32} (h : ¬ x = 0) (c : Int32) (S : List Int32) : jn x c S = c :: S := if_neg h
theorem jn_len (x c : Int32) (S : List Int32) : (jn x c S).length = wt x + S.length := by
  unfold jn wt
  by_cases h : x = 0
  · rw [if_pos h, if_pos h]; omega
  · rw [if_neg h, if_neg h]; show S.length + 1 = 1 + S.length; omega
theorem wt_le (x : Int32) : wt x ≤ 1 := by
  unfold wt
  by_cases h : x = 0
  · rw [if_pos h]; omega
  · rw [if_neg h]; exact Nat.le_refl 1
theorem jn_top {x c z : Int32} {S : List Int32} (h1 : ¬ c = z) (h2 : ¬ topS S = z) : ¬ topS (jn x c S) = z := by
  unfold jn
  by_cases h : x = 0
  · rw [if_pos h]; exact h2
  · rw [if_neg h]; exact h1
theorem cs_jn {m0 q r u : OV} {L s p e k : Nat} {x y z : Int32} (hy : (y = -25 ∧ z = 10) ∨ (y = -26 ∧ z = 11)) (hs : s < 6) (he : e + wt x < 300) (c : CS L 0 p e k q r u) {X : OV → Prop} (hq : ∀ u', CS L 0 p (e + wt x) k q r u' → KP e u u' → (∀ τ, TyU (u'.2.1 0) e (e + wt x) (true :: tru (wt x) τ) (true :: τ)) → (∀ p' m S d post, TS m0 L s p' e k (u.2.1 0) (jn x z S) d m → S.length ≤ 50 → ¬ topS S = z → (∀ m', FX IT AT s m m' → TS m0 L s p' (e + wt x) k (u'.2.1 0) S d m' → post m') → PX9_answers m z post) → X u') : (x = 0 → X u) ∧ (¬ x = 0 → PX3_put u y X) := by
  obtain ⟨hp, rd, ok, foc, g⟩ := id c
  obtain ⟨qk, ue⟩ := g rfl
  refine br_c (fun h => ?_) (fun h => ?_)
  · subst h
    refine hq u c (KP_refl e u) (fun τ => TyU_refl _ _ _) (fun p' m S d post w hS ht h0 => ⟨1, ?_⟩)
    exact mp_ans0 w (by rw [jn_0]; omega) ht (h0 m FX_nil w)
  · have w1 := wt_1 h
    rw [w1] at hq he
    have op : (z, y) ∈ opT ∧ ¬ z = 9 ∧ ∀ τ, ty1 y (true :: true :: τ) = some (true :: τ) := by
      rcases hy with ⟨rfl, rfl⟩ | ⟨rfl, rfl⟩
      · exact ⟨by decide, by decide, fun _ => rfl⟩
      · exact ⟨by decide, by decide, fun _ => rfl⟩
    refine cp_put ue (by omega) (hq _ ⟨hp, rd, Uok_cpU ok (by omega), Or.inl rfl, fun _ => ⟨qk, rfl⟩⟩ ⟨UF_cpU _ _ _, PE_cpU _ _ _⟩ (fun τ => TyU_one ?_) (fun p' m S d post w hS ht h0 => ⟨2, ?_⟩))
    · rw [cpU_at]
      exact op.2.2 τ
    · rw [jn_n h] at w
      refine mp_ans1 hs (by omega) w (by omega) (Or.inl ⟨op.2.1, rfl⟩) (Or.inr (Or.inr (Or.inr op.1))) (fun m1 f1 w1' => ?_)
      exact mp_ans0 w1' (by omega) ht (h0 m1 f1 w1')
theorem cs_test_fault {t m0 q r u : OV} {B : Nat → Nat} {L p n : Nat} {F P i d : Int32} {RT RF : OV → OV → OV → OV → Int32 → (OV → OV → OV → Prop) → Prop} (tx : TX B L t m0) (nz : ¬ F = 0) (hp : p ≤ L) (rd : RD r L p F) (ok : Uok u) {post : OV → OV → OV → Prop} (hq : ∀ p' r' u', p' ≤ L → RD r' L p' F → Uok u' → post q r' u') : PX4_readTest_g_b43 RT RF t (PX4_readTest_g_L7 RT RF t post (n + 1)) post d P i q r u := by
  have lp : ∀ {p' : Nat} {r' u' : OV} (a b i' : Int32), p' ≤ L → RD r' L p' F → Uok u' → PX4_readTest_g_L7 RT RF t post (n + 1) d a b i' q r' u' := by
    intro p' r' u' a b i' hp' rd' ok'
    unfold PX4_readTest_g_L7
    have g := hq p' r' u' hp' rd' ok'
    exact br_c (fun _ => g) (fun _ => br_nf (by rw [rd'.2.2]; exact nz) g)
  have b70 : ∀ {p' : Nat} {r' u' : OV} (a : Int32), p' ≤ L → RD r' L p' F → Uok u' → PX4_readTest_g_b70 RT RF t (PX4_readTest_g_L7 RT RF t post (n + 1)) post d a i q r' u' := by
    intro p' r' u' a hp' rd' ok'
    have sp : sk B L p' ≤ L := (fw_ok (isBl B) hp').2.1
    unfold PX4_readTest_g_b70
    refine cp_takeWord tx (s := 4) (by omega) (by omega) hp' rd' (fun _ r2 rd2 le => br_nf (by decide) ?_) (fun _ r2 rd2 => br_nt rfl (hq _ _ _ sp rd2 ok'))
    rintro _ rfl
    exact lp _ _ _ le rd2 ok'
  have sp : sk B L p ≤ L := (fw_ok (isBl B) hp).2.1
  unfold PX4_readTest_g_b43
  refine cp_takeWord tx (s := 3) (by omega) (by omega) hp rd (fun _ r2 rd2 le => br_nf (by decide) ?_) (fun _ r2 rd2 => br_nt rfl (br_c (fun _ => b70 _ sp rd2 ok) (fun _ => cp_put_ok ok (fun u' ok' _ => b70 _ sp rd2 ok'))))
  rintro _ rfl
  exact lp _ _ _ le rd2 ok
theorem s_ao : ¬ slen 22 = slen 23 := by rw [s_lens.1, s_lens.2.1]; decide
/-- the reference's look at the words behind a fact -/
theorem mp_AB {t m0 m : OV} {B : Nat → Nat} {L s p e k d n : Nat} {st : Nat → Int32} {S : List Int32} {pm : OV → Prop} (tx : TX B L t m0) (w : TS m0 L s p e k st S d m) (ha : MT B L (sk B L p) 3 → ∀ m1, FX IT AT s m m1 → TS m0 L s (sk B L p) e k st S d m1 → ∀ X : OV → Prop, (∀ m2, PX9_test_b93 (PX9_test_L9 pm n) pm 1 1 m2 → X m2) → PX9_answers m1 10 X) (ho : ¬ MT B L (sk B L p) 3 → MT B L (sk B L p) 4 → ∀ m1, FX IT AT s m m1 → TS m0 L s (sk B L p) e k st S d m1 → ∀ X : OV → Prop, (∀ m2, PX9_answers m2 11 (fun m3 => PX9_test_b93 (PX9_test_L9 pm n) pm 1 0 m3) → X m2) → PX9_answers m1 10 X) (h0 : ¬ MT B L (sk B L p) 3 → ¬ MT B L (sk B L p) 4 → ∀ m1, FX IT AT s m m1 → TS m0 L s (sk B L p) e k st S d m1 → ∀ X : OV → Prop, (∀ m2, PX9_answers m2 11 (fun m3 => TB pm n m3) → X m2) → PX9_answers m1 10 X) : AB pm n m := by
  have hp : p ≤ L := (w.1.2.2.2 rfl).1
  have sp : sk B L p ≤ L := (fw_ok (isBl B) hp).2.1
  unfold AB
  refine mp_blanks (MC_tx tx w.1.1) hp (MS_rm w.1) (fun m1 f1 r1 => ?_)
  have f1' : Fr [31, 32] [] [] [] m m1 := Fr_mono f1 (by decide) (by decide) (by decide) (by decide)
  have ms1 := MS_mv w.1 f1' r1 sp
  have t1 := TS_fr w (FX_31 f1' (by decide) (by decide)) ms1
  have fx : FX IT AT s m m1 := FX_TI f1' (by decide) (Or.inr rfl)
  have txm := MC_tx tx ms1.1
  refine mp_stood txm (show (22:Nat) < 30 by decide) sp r1 (mp_stood txm (show (23:Nat) < 30 by decide) sp r1 ?_)
  by_cases y : MT B L (sk B L p) 22
  · have y3 : MT B L (sk B L p) 3 := (MT_eq s_and).mpr y
    have no : ¬ MT B L (sk B L p) 23 := fun z => s_ao (y.1.symm.trans z.1)
    rw [zb_t y, zb_f no]
    refine ha y3 m1 fx t1 _ (fun m2 g => br_nf (by decide) ?_)
    unfold PX9_test_b82
    exact br_t rfl g
  · have y3 : ¬ MT B L (sk B L p) 3 := fun z => y ((MT_eq s_and).mp z)
    rw [zb_f y]
    by_cases z : MT B L (sk B L p) 23
    · have z4 : MT B L (sk B L p) 4 := (MT_eq s_or).mpr z
      rw [zb_t z]
      refine ho y3 z4 m1 fx t1 _ (fun m2 g => br_nt rfl (br_f (by decide) ?_))
      unfold PX9_test_b82
      exact br_f (by decide) g
    · have z4 : ¬ MT B L (sk B L p) 4 := fun a => z ((MT_eq s_or).mp a)
      rw [zb_f z]
      exact h0 y3 z4 m1 fx t1 _ (fun m2 g => br_nt rfl (br_t rfl g))
