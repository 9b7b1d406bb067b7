/-! 978: the loop of a test -/
theorem te_loop {t m0 : OV} {B : Nat → Nat} {L s d f : Nat} (tx : TX B L t m0) (hs : s < 6) (hd : d ≤ 10) (fa : FaL B t m0 L s d (RX4_readTest f).2) {S : List Int32} (hS : S.length ≤ 3 * d) (hT : topS S = -1 ∨ topS S = 12) {post : OV → OV → OV → Prop} : ∀ δ k, 60 < k + δ → k ≤ 60 → ∀ p e q r u P Fj i n G, CS L 0 p e k q r u → i ≤ k → δ + 1 ≤ n → e + wt P + wt Fj ≤ 2 * k + 8 * G → 3 * G ≤ k → (∀ F' p' e' k' C q' r' u', CS L F' p' e' k' q' r' u' → (F' = 0 → KP e u u' ∧ e ≤ e' ∧ k' ≤ 60 ∧ 1 ≤ C ∧ k + 3 * C ≤ k' ∧ e' + 2 * C + 1 ≤ e + 2 * (k' - k) + (10 - d) * C + wt P + wt Fj ∧ p ≤ p' ∧ sk B L p' = p' ∧ ∀ τ, τ.length + wt P + wt Fj ≤ k → TyU (u'.2.1 0) e e' (tru (wt Fj) (tru (wt P) τ)) (true :: τ)) → TT m0 L s p e k (u.2.1 0) (jn Fj 10 (jn P 11 S)) S d F' p' e' k' (u'.2.1 0) → post q' r' u') → PX4_readTest_g_L7 (RX4_readTest f).1 (RX4_readTest f).2 t post n (nI d) P Fj (nI i) q r u := by
  intro δ
  induction δ with
  | zero => intro k h1 h2; omega
  | succ δ ih =>
    intro k hk60 hk p e q r u P Fj i n G c hi hn hb hG hq
    have l4 := tx.1
    have t10 : ¬ topS S = 10 := by rcases hT with h | h <;> rw [h] <;> decide
    have t11 : ¬ topS S = 11 := by rcases hT with h | h <;> rw [h] <;> decide
    have t9 : ¬ topS S = 9 := by rcases hT with h | h <;> rw [h] <;> decide
    have wP := wt_le P
    have wF := wt_le Fj
    obtain ⟨n, rfl⟩ : ∃ n', n = n' + 2 := ⟨n - 2, by omega⟩
    have lS : (jn Fj 10 (jn P 11 S)).length ≤ 3 * d + 2 := by rw [jn_len, jn_len]; omega
    unfold PX4_readTest_g_L7
    refine br_f (fr_nle (b := 400) (by omega) (by omega)) (br_nt c.2.1.2.2 (fa p e k q r u (jn Fj 10 (jn P 11 S)) G _ c lS hk (by omega) hG (fun F1 p1 e1 k1 C1 q1 r1 u1 c1 o1 t1 => ?_)))
    by_cases nz : F1 = 0
    · subst nz
      obtain ⟨kp1, a1, a2, a3, a4, a5, a6, ty⟩ := o1 rfl
      have b10 := Nat.mul_le_mul_right C1 (show 10 - d ≤ 10 by omega)
      have hp1 := c1.1
      have sp : sk B L p1 ≤ L := (fw_ok (isBl B) hp1).2.1
      have pk : p1 ≤ sk B L p1 := (fw_ok (isBl B) hp1).1
      have ss := sk_sk (B := B) hp1
      refine cs_jn (m0 := m0) (s := s) (y := -25) (z := 10) (Or.inl ⟨rfl, rfl⟩) hs (by omega) c1 (fun u2 c2 kp2 ty2' tr2 => ?_)
      have kp02 : KP e u u2 := KP_trans a1 kp1 kp2
      have ty02 : ∀ τ, τ.length + wt P + wt Fj ≤ k → TyU (u2.2.1 0) e (e1 + wt Fj) (tru (wt Fj) (tru (wt P) τ)) (true :: tru (wt P) τ) := fun τ hτ => TyU_trans (TyU_fr (ty _ (by rw [tru_len, tru_len]; omega)) (fun j hj => kp2.2 j hj)) (ty2' _)
      -- the reference up to the answered AND
      have ref : ∀ {F' : Int32} {p' e' k' : Nat} {st' : Nat → Int32}, (∀ m n (pm : OV → Prop), TS m0 L s p1 e1 k1 (u1.2.1 0) (jn Fj 10 (jn P 11 S)) d m → L + 2 ≤ n + p1 → (¬ F' = 0 → ∀ m', FX IT AT s m m' → MS m0 L s F' p' e' k' st' m' → pm m') → (F' = 0 → ∀ m' n', FX IT AT s m m' → TS m0 L s p' e' k' st' S d m' → L + 2 ≤ n' + p' → TB pm n' m') → AB pm n m) → TT m0 L s p e k (u.2.1 0) (jn Fj 10 (jn P 11 S)) S d F' p' e' k' st' := by
        intro F' p' e' k' st' g m n pm w hn hf h0
        refine t1 m n pm w hn (fun z => absurd rfl z) (fun _ m' n' a f' w' h1 h2 => ?_)
        obtain ⟨a, rfl⟩ : ∃ a', a = a' + 1 := ⟨a - 1, by omega⟩
        refine mp_ans0 w' (by omega) (jn_top (by decide) (jn_top (by decide) t9)) ?_
        exact g m' n' pm w' h1 (fun z m2 f2 w2 => hf z m2 (FX_trans f' f2) w2) (fun z m2 n2 f2 w2 h3 => h0 z m2 n2 (FX_trans f' f2) w2 h3)
      unfold PX4_readTest_g_b43
      refine cp_takeWord tx (s := 3) (by omega) (by omega) hp1 c2.2.1 (fun y r3 rd3 le => br_nf (by decide) ?_) (fun y r3 rd3 => br_nt rfl ?_)
      · -- and
        have l3 : slen 3 = 3 := s_lens.2.2.2.2.1
        rw [l3] at rd3 le
        rw [nI_1]
        rintro _ rfl
        refine ih k1 (by omega) a2 (sk B L p1 + 3) (e1 + wt Fj) q1 r3 u2 P 1 (i + 1) (n + 1) (G + C1) ⟨le, rd3, c2.2.2.1, Or.inl rfl, fun _ => c2.2.2.2.2 rfl⟩ (by omega) (by omega) (by show e1 + wt Fj + wt P + 1 ≤ _; omega) (by omega) (fun F' p' e' k' C' q' r' u' c' o' t' => ?_)
        refine hq F' p' e' k' (C1 + C') q' r' u' c' (fun z => ?_) ?_
        · obtain ⟨kp', g1, g2, g3, g4, g5, g6, g7, g8⟩ := o' z
          have w1 : wt (1 : Int32) = 1 := rfl
          rw [w1] at g5 g8
          have bm : (10 - d) * (C1 + C') = (10 - d) * C1 + (10 - d) * C' := Nat.mul_add _ _ _
          refine ⟨KP_trans (by omega) kp02 kp', by omega, g2, by omega, by omega, by omega, by omega, g7, fun τ hτ => ?_⟩
          exact TyU_trans (TyU_fr (ty02 τ hτ) (fun j hj => kp'.2 j hj)) (g8 τ (by omega))
        · refine ref (fun m n' pm w h1 hf h0 => ?_)
          refine mp_AB tx w (fun _ m1 f1 w1 X hX => ?_) (fun z => absurd y z) (fun z => absurd y z)
          refine tr2 (sk B L p1) m1 (jn P 11 S) d X w1 (by rw [jn_len]; omega) (jn_top (by decide) t10) (fun m2 f2 w2 => hX m2 ?_)
          unfold PX9_test_b93 PX9_test_b105
          refine br_f (by decide) (mp_open1 w2 (by rw [jn_len]; omega) ⟨by decide, by decide⟩ (fun m3 f3 w3 => br_f (by decide) ?_))
          unfold PX9_test_b122
          rw [(w3.1.2.2.2 rfl).2.1, show nI (sk B L p1) + (3 : Int32) = nI (sk B L p1 + 3) from nI_add _ 3]
          rintro _ rfl _ rfl
          have fx : FX IT AT s m (si m3 31 (nI (sk B L p1 + 3))) := FX_trans f1 (FX_trans f2 (FX_trans f3 FX_p))
          exact t' _ n' pm (TS_p w3 _ le) (by omega) (fun z m' f' w' => hf z m' (FX_trans fx f') w') (fun z m' n2 f' w' h3 => h0 z m' n2 (FX_trans fx f') w' h3)
      · -- no and
        have c2' : CS L 0 (sk B L p1) (e1 + wt Fj) k1 q1 r3 u2 := ⟨sp, rd3, c2.2.2.1, Or.inl rfl, fun _ => c2.2.2.2.2 rfl⟩
        refine cs_jn (m0 := m0) (s := s) (y := -26) (z := 11) (Or.inr ⟨rfl, rfl⟩) hs (by omega) c2' (fun u3 c3 kp3 ty3' tr3 => ?_)
        have kp03 : KP e u u3 := KP_trans (by omega) kp02 kp3
        have ty03 : ∀ τ, τ.length + wt P + wt Fj ≤ k → TyU (u3.2.1 0) e (e1 + wt Fj + wt P) (tru (wt Fj) (tru (wt P) τ)) (true :: τ) := fun τ hτ => TyU_trans (TyU_fr (ty02 τ hτ) (fun j hj => kp3.2 j hj)) (ty3' τ)
        have l2 : slen 4 = 2 := s_lens.2.2.2.2.2.1
        unfold PX4_readTest_g_b70
        refine cp_takeWord tx (s := 4) (by omega) (by omega) sp c3.2.1 (fun y4 r4 rd4 le => br_nf (by decide) ?_) (fun y4 r4 rd4 => br_nt rfl ?_)
        · -- or
          rw [ss, l2] at rd4 le
          rw [ss] at y4
          rw [nI_1]
          rintro _ rfl
          refine ih k1 (by omega) a2 (sk B L p1 + 2) (e1 + wt Fj + wt P) q1 r4 u3 1 0 (i + 1) (n + 1) (G + C1) ⟨le, rd4, c3.2.2.1, Or.inl rfl, fun _ => c3.2.2.2.2 rfl⟩ (by omega) (by omega) (by show e1 + wt Fj + wt P + 1 + 0 ≤ _; omega) (by omega) (fun F' p' e' k' C' q' r' u' c' o' t' => ?_)
          refine hq F' p' e' k' (C1 + C') q' r' u' c' (fun z => ?_) ?_
          · obtain ⟨kp', g1, g2, g3, g4, g5, g6, g7, g8⟩ := o' z
            have w1 : wt (1 : Int32) = 1 := rfl
            rw [w1, wt_0] at g5 g8
            have bm : (10 - d) * (C1 + C') = (10 - d) * C1 + (10 - d) * C' := Nat.mul_add _ _ _
            refine ⟨KP_trans (by omega) kp03 kp', by omega, g2, by omega, by omega, by omega, by omega, g7, fun τ hτ => ?_⟩
            exact TyU_trans (TyU_fr (ty03 τ hτ) (fun j hj => kp'.2 j hj)) (g8 τ (by omega))
          · refine ref (fun m n' pm w h1 hf h0 => ?_)
            refine mp_AB tx w (fun z => absurd z y) (fun _ _ m1 f1 w1 X hX => ?_) (fun _ z => absurd y4 z)
            refine tr2 (sk B L p1) m1 (jn P 11 S) d X w1 (by rw [jn_len]; omega) (jn_top (by decide) t10) (fun m2 f2 w2 => hX m2 ?_)
            refine tr3 (sk B L p1) m2 S d _ w2 (by omega) t11 (fun m3 f3 w3 => ?_)
            unfold PX9_test_b93 PX9_test_b105
            refine br_t rfl (mp_open1 w3 (by omega) ⟨by decide, by decide⟩ (fun m4 f4 w4 => br_t rfl ?_))
            unfold PX9_test_b122
            rw [(w4.1.2.2.2 rfl).2.1, show nI (sk B L p1) + (2 : Int32) = nI (sk B L p1 + 2) from nI_add _ 2]
            rintro _ rfl _ rfl
            have fx : FX IT AT s m (si m4 31 (nI (sk B L p1 + 2))) := FX_trans f1 (FX_trans f2 (FX_trans f3 (FX_trans f4 FX_p)))
            exact t' _ n' pm (TS_p w4 _ le) (by omega) (fun z m' f' w' => hf z m' (FX_trans fx f') w') (fun z m' n2 f' w' h3 => h0 z m' n2 (FX_trans fx f') w' h3)
        · -- the end
          rw [ss] at rd4 y4
          refine hq 0 (sk B L p1) (e1 + wt Fj + wt P) k1 C1 q1 r4 u3 ⟨sp, rd4, c3.2.2.1, Or.inl rfl, fun _ => c3.2.2.2.2 rfl⟩ (fun _ => ⟨kp03, by omega, a2, a3, a4, by omega, by omega, ss, ty03⟩) ?_
          refine ref (fun m n' pm w h1 hf h0 => ?_)
          refine mp_AB tx w (fun z => absurd z y) (fun _ z => absurd z y4) (fun _ _ m1 f1 w1 X hX => ?_)
          refine tr2 (sk B L p1) m1 (jn P 11 S) d X w1 (by rw [jn_len]; omega) (jn_top (by decide) t10) (fun m2 f2 w2 => hX m2 ?_)
          exact tr3 (sk B L p1) m2 S d _ w2 (by omega) t11 (fun m3 f3 w3 => h0 rfl m3 n' (FX_trans f1 (FX_trans f2 f3)) w3 (by omega))
    · have fin : ∀ u2, Uok u2 → PX4_readTest_g_b43 (RX4_readTest f).1 (RX4_readTest f).2 t (PX4_readTest_g_L7 (RX4_readTest f).1 (RX4_readTest f).2 t post (n + 1)) post (nI d) P (nI i) q1 r1 u2 := fun u2 ok2 => by
        refine cs_test_fault tx nz c1.1 c1.2.1 ok2 (fun p' r' u' hp' rd' ok' => ?_)
        refine hq F1 p' e k 0 q1 r' u' (CS_F nz c1.2.2.2.1 hp' rd' ok') (fun z => absurd z nz) (fun m n pm w hn hf h0 => ?_)
        exact t1 m n pm w hn (fun _ m' f' w' => hf nz m' f' (MS_any nz w')) (fun z => absurd z nz)
      exact br_c (fun _ => fin u1 c1.2.2.1) (fun _ => cp_put_ok c1.2.2.1 (fun u2 ok2 _ => fin u2 ok2))
theorem te_step {t m0 : OV} {B : Nat → Nat} {L s d f : Nat} (tx : TX B L t m0) (hs : s < 6) (hd : d ≤ 10) (fa : FaL B t m0 L s d (RX4_readTest f).2) : TeL B t m0 L s d (RX4_readTest (f + 1)).1 := by
  intro p e k q r u S G post c hS hT hk he hG hq
  show PX4_readTest_g (RX4_readTest f).1 (RX4_readTest f).2 q r u t (nI d) post
  unfold PX4_readTest_g
  refine ⟨62, te_loop (P := 0) (Fj := 0) (i := 0) tx hs hd fa hS hT 61 k (by omega) hk p e q r u _ G c (Nat.zero_le k) (by omega) (by rw [wt_0]; omega) hG (fun F' p' e' k' C q' r' u' c' o' t' => ?_)⟩
  refine hq F' p' e' k' C q' r' u' c' (fun z => ?_) t'
  obtain ⟨g0, g1, g2, g3, g4, g5, g6, g7, g8⟩ := o' z
  rw [wt_0] at g5 g8
  exact ⟨⟨g0, g1, g2, g3, g4, by omega, g6, fun τ hτ => g8 τ (by omega)⟩, g7⟩
theorem te_all {t m0 : OV} {B : Nat → Nat} {L s : Nat} (tx : TX B L t m0) (hs : s < 6) : ∀ f d, d ≤ 10 → (2 * (10 - d) + 2 ≤ f → TeL B t m0 L s d (RX4_readTest f).1) ∧ (2 * (10 - d) + 1 ≤ f → FaL B t m0 L s d (RX4_readTest f).2) := by
  intro f
  induction f with
  | zero => intro d hd; exact ⟨fun h => absurd h (by omega), fun h => absurd h (by omega)⟩
  | succ f ih =>
    intro d hd
    exact ⟨fun h => te_step tx hs hd ((ih d hd).2 (by omega)), fun h => fa_step tx hs hd (fun d10 => (ih (d + 1) (by omega)).1 (by omega)) (fun d10 => (ih (d + 1) (by omega)).2 (by omega))⟩
theorem cs_test {t m0 : OV} {B : Nat → Nat} {L s : Nat} (tx : TX B L t m0) (hs : s < 6) : TeL B t m0 L s 0 (RX4_readTest 30).1 := (te_all tx hs 30 0 (by omega)).1 (by omega)
