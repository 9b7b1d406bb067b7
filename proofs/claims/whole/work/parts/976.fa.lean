/-! 976: a fact -/
theorem fa_step {t m0 : OV} {B : Nat → Nat} {L s d f : Nat} (tx : TX B L t m0) (hs : s < 6) (hd : d ≤ 10) (ihT : d < 10 → TeL B t m0 L s (d + 1) (RX4_readTest f).1) (ihF : d < 10 → FaL B t m0 L s (d + 1) (RX4_readTest f).2) : FaL B t m0 L s d (RX4_readTest (f + 1)).2 := by
  intro p e k q r u S G post c hS hk he hG hq
  obtain ⟨hp, rd, ok, foc, g⟩ := id c
  have l4 := tx.1
  have sp : sk B L p ≤ L := (fw_ok (isBl B) hp).2.1
  have pk : p ≤ sk B L p := (fw_ok (isBl B) hp).1
  have ss := sk_sk (B := B) hp
  have l3 : slen 5 = 3 := s_lens.2.2.2.2.2.2.1
  show PX4_readFact_g (RX4_readTest f).1 (RX4_readTest f).2 q r u t (nI d) post
  unfold PX4_readFact_g
  refine cp_next tx hp rd (fun r1 rd1 => ?_)
  -- the reference where it opens
  have refN : MT B L (sk B L p) 21 → d < 10 → ∀ {F' : Int32} {p' e' k' : Nat} {st' : Nat → Int32}, (∀ m n (pm : OV → Prop), TS m0 L s (sk B L p + 3) e k (u.2.1 0) (9 :: S) (d + 1) m → L + 4 ≤ n + (sk B L p + 3) → (¬ F' = 0 → ∀ m', FX IT AT s m m' → MS m0 L s F' p' e' k' st' m' → pm m') → (F' = 0 → ∀ m' n' a, FX IT AT s m m' → TS m0 L s p' e' k' st' S d m' → L + 2 ≤ n' + p' → S.length + 1 ≤ a → PX9_answers_L0 (AB pm n') a 9 m') → PX9_test_L9 pm n 1 1 m) → FT m0 L s p e k (u.2.1 0) S d F' p' e' k' st' := by
    intro hm d10 F' p' e' k' st' gg m n pm w hn hf h0
    obtain ⟨n, rfl⟩ : ∃ n', n = n' + 1 := ⟨n - 1, by omega⟩
    have le := (MT_not sp hm).1
    refine L9_1 tx w (fun _ m1 fx1 t1 X hX => ?_) (fun y => absurd hm y) (fun y => absurd hm y)
    refine mp_open2 t1 l4 (by omega) hd (Or.inl rfl) (fun _ m2 f2 t2 => hX m2 ?_) (fun y => absurd y (by omega))
    rw [(t2.1.2.2.2 rfl).2.1, show nI (sk B L p) + (3 : Int32) = nI (sk B L p + 3) from nI_add _ 3]
    have fx : FX IT AT s m (si m2 31 (nI (sk B L p + 3))) := FX_trans fx1 (FX_trans f2 FX_p)
    exact gg _ n pm (TS_p t2 _ le) (by omega) (fun z m' f' w' => hf z m' (FX_trans fx f') w') (fun z m' n' a f' w' h1 h2 => h0 z m' n' a (FX_trans fx f') w' h1 h2)
  have refB : chr B L (sk B L p) = 91 → d < 10 → ∀ {F' : Int32} {p' e' k' : Nat} {st' : Nat → Int32}, (∀ m n (pm : OV → Prop), TS m0 L s (sk B L p + 1) e k (u.2.1 0) (12 :: S) (d + 1) m → L + 4 ≤ n + (sk B L p + 1) → (¬ F' = 0 → ∀ m', FX IT AT s m m' → MS m0 L s F' p' e' k' st' m' → pm m') → (F' = 0 → ∀ m' n' a, FX IT AT s m m' → TS m0 L s p' e' k' st' S d m' → L + 2 ≤ n' + p' → S.length + 1 ≤ a → PX9_answers_L0 (AB pm n') a 9 m') → PX9_test_L9 pm n 1 1 m) → FT m0 L s p e k (u.2.1 0) S d F' p' e' k' st' := by
    intro hc d10 F' p' e' k' st' gg m n pm w hn hf h0
    obtain ⟨n, rfl⟩ : ∃ n', n = n' + 1 := ⟨n - 1, by omega⟩
    have lt : sk B L p < L := chr_lt (B := B) (by rw [hc]; decide)
    have nm : ¬ MT B L (sk B L p) 21 := fun y => (MT_not sp y).2 hc
    refine L9_1 tx w (fun y => absurd y nm) (fun _ _ m1 fx1 t1 X hX => ?_) (fun _ y => absurd hc y)
    refine mp_open2 t1 l4 (by omega) hd (Or.inr rfl) (fun _ m2 f2 t2 => hX m2 ?_) (fun y => absurd y (by omega))
    rw [(t2.1.2.2.2 rfl).2.1, nI_1]
    have fx : FX IT AT s m (si m2 31 (nI (sk B L p + 1))) := FX_trans fx1 (FX_trans f2 FX_p)
    exact gg _ n pm (TS_p t2 _ lt) (by omega) (fun z m' f' w' => hf z m' (FX_trans fx f') w') (fun z m' n' a f' w' h1 h2 => h0 z m' n' a (FX_trans fx f') w' h1 h2)
  -- too deep
  have deep : d = 10 → (MT B L (sk B L p) 21 ∨ chr B L (sk B L p) = 91) → ∀ r2, RD r2 L (sk B L p) 0 → ∀ y2 y3, PX4_readFact_g_b44 (RX4_readTest f).1 (RX4_readTest f).2 t post (nI d) y2 y3 q r2 u := by
    intro d10 hcs r2 rd2 y2 y3
    unfold PX4_readFact_g_b44
    refine br_f (by rw [d10]; decide) ?_
    rw [rd2.2.1]
    refine cp_failAt (k := nI 2) rd2 (fun r3 rd3 => ?_)
    rw [fst_z] at rd3
    have nz : ¬ flt (sk B L p) (nI 2) = 0 := flt_ne (by omega) (by omega)
    refine hq _ (sk B L p) e k 0 q r3 u (CS_F nz (FOk_flt (by omega) (by omega)) sp rd3 ok) (fun z => absurd z nz) (fun m n pm w hn hf _ => ?_)
    obtain ⟨n, rfl⟩ : ∃ n', n = n' + 2 := ⟨n - 2, by omega⟩
    have fin : ∀ (x : Nat) (m2 : OV), FX IT AT s m m2 → m2.1 31 = nI (sk B L p) → MS m0 L s (flt (sk B L p) 2) (sk B L p) e k (u.2.1 0) m2 → sk B L p + x ≤ L → PX9_test_L9 pm (n + 1) 1 1 (si m2 31 (m2.1 31 + nI x)) := by
      intro x m2 fx2 e31 w2 le
      rw [e31, nI_add]
      have nz' : ¬ (si m2 31 (nI (sk B L p + x))).1 32 = 0 := by
        show ¬ m2.1 32 = 0
        rw [w2.2.1]
        exact nz
      refine L9_no nz' (hf nz _ (FX_trans fx2 FX_p) ?_)
      exact MS_p w2 nz (Fr_si (by decide) Fr_refl) (sk B L p + x) (by omega) rfl
    refine L9_1 tx w (fun y m1 fx1 t1 X hX => ?_) (fun _ y m1 fx1 t1 X hX => ?_) (fun y1 y2 => absurd hcs (by rintro (y | y); exact y1 y; exact y2 y))
    · exact mp_open2 t1 l4 (by omega) hd (Or.inl rfl) (fun y => absurd d10 (by omega)) (fun _ m2 f2 e31 w2 => hX m2 (fin 3 m2 (FX_trans fx1 f2) e31 w2 (MT_not sp y).1))
    · exact mp_open2 t1 l4 (by omega) hd (Or.inr rfl) (fun y => absurd d10 (by omega)) (fun _ m2 f2 e31 w2 => hX m2 (fin 1 m2 (FX_trans fx1 f2) e31 w2 (chr_lt (B := B) (by rw [y]; decide))))
  have lt10 : d < 10 → nI d < (10 : Int32) := fun h => nI_lt (b := 10) h (by omega)
  have key : ∀ t0 : Int32, ((t0 = 1 ∧ chr B L (sk B L p) = 91) ∨ (t0 = 0 ∧ ¬ chr B L (sk B L p) = 91)) → PX4_readFact_g_b17 (RX4_readTest f).1 (RX4_readTest f).2 t post t0 (nI d) q r1 u := by
    intro t0 ht
    unfold PX4_readFact_g_b17
    refine cp_word1 tx (s := 5) (by omega) (by omega) sp rd1 (fun r2 rd2 => ?_)
    rw [ss] at rd2 ⊢
    refine ⟨fun y => br_nt rfl ?_, fun y => br_nf (by decide) ?_⟩
    · -- not
      have hm : MT B L (sk B L p) 21 := (MT_eq s_not).mp y
      obtain ⟨le, nb⟩ := MT_not sp hm
      have t00 : t0 = 0 := by
        rcases ht with ⟨_, h⟩ | ⟨h, _⟩
        · exact absurd h nb
        · exact h
      subst t00
      unfold PX4_readFact_g_b35
      refine br_nt rfl (br_f (by decide) ?_)
      rcases Nat.lt_or_ge d 10 with d10 | d10
      · unfold PX4_readFact_g_b44 PX4_readFact_g_b68
        refine br_t (lt10 d10) (br_t rfl (br_f (by decide) (cp_takeWord tx (s := 5) (by omega) (by omega) sp rd2 (fun _ r3 rd3 _ => ?_) (fun z => absurd (by rw [ss]; exact y) z))))
        rw [ss, l3] at rd3
        rw [nI_1]
        refine ihF d10 (sk B L p + 3) e k q r3 u (9 :: S) G _ ⟨le, rd3, ok, Or.inl rfl, fun _ => g rfl⟩ (by show S.length + 1 ≤ 3 * (d + 1) + 2; omega) hk he hG (fun F1 p1 e1 k1 C q1 r4 u1 c1 o1 t1 => ?_)
        by_cases z : F1 = 0
        · subst z
          obtain ⟨kp1, a1, a2, a3, a4, a5, a6, ty⟩ := o1 rfl
          have b9 := Nat.mul_le_mul_right C (show 10 - (d + 1) ≤ 9 by omega)
          have b1 : (10 - d) * C = (10 - (d + 1)) * C + C := by rw [show 10 - d = (10 - (d + 1)) + 1 by omega, Nat.add_mul, Nat.one_mul]
          have e300 : e1 < 300 := by omega
          refine cp_put (c1.2.2.2.2 rfl).2 (by omega) (hq 0 p1 (e1 + 1) k1 C q1 r4 _ ⟨c1.1, c1.2.1, Uok_cpU c1.2.2.1 (by omega), Or.inl rfl, fun _ => ⟨(c1.2.2.2.2 rfl).1, rfl⟩⟩ (fun _ => ⟨KP_trans a1 kp1 ⟨UF_cpU _ _ _, PE_cpU _ _ _⟩, by omega, a2, a3, a4, by omega, by omega, fun τ hτ => ?_⟩) ?_)
          · refine TyU_trans (TyU_fr (ty τ hτ) (fun j hj => (PE_cpU u1 e1 (-27)) j hj)) (TyU_one ?_)
            rw [cpU_at]
            rfl
          · refine refN hm d10 (fun m n pm w hn hf h0 => t1 m n pm w hn (fun z => absurd rfl z) (fun _ m' n' a f' w' h1 h2 => ?_))
            have h2' : S.length + 1 + 1 ≤ a := h2
            obtain ⟨a, rfl⟩ : ∃ a', a = a' + 1 := ⟨a - 1, by omega⟩
            exact mp_ans1 hs e300 w' (by omega) (Or.inr ⟨rfl, rfl⟩) (Or.inr (Or.inr (Or.inl ⟨rfl, rfl⟩))) (fun m3 f3 w3 => h0 rfl m3 n' a (FX_trans f' f3) w3 h1 (by omega))
        · refine cp_put_ok c1.2.2.1 (fun u2 ok2 _ => hq F1 p1 e1 k1 C q1 r4 u2 (CS_F z c1.2.2.2.1 c1.1 c1.2.1 ok2) (fun y => absurd y z) (refN hm d10 (fun m n pm w hn hf h0 => t1 m n pm w hn (fun _ m' f' w' => hf z m' f' (MS_any z w')) (fun y => absurd y z))))
      · exact deep (by omega) (Or.inl hm) r2 rd2 _ _
    · have nm : ¬ MT B L (sk B L p) 21 := fun z => y ((MT_eq s_not).mpr z)
      rcases ht with ⟨rfl, hc⟩ | ⟨rfl, hc⟩
      · -- a bracket
        have lt : sk B L p < L := chr_lt (B := B) (by rw [hc]; decide)
        have hb : B (sk B L p) = 91 := ((chr_eq (B := B) (L := L) (q := sk B L p) (w := 91) (by omega) (fun c => (tx.2 _ c).1)).mp hc).2
        unfold PX4_readFact_g_b35
        refine br_nf (by decide) ?_
        rcases Nat.lt_or_ge d 10 with d10 | d10
        · unfold PX4_readFact_g_b44 PX4_readFact_g_b68
          refine br_t (lt10 d10) (br_f (by decide) (cp_take (w := 91) tx (by omega) sp rd2 (fun _ _ r3 rd3 => ?_) (fun z => absurd (by rw [ss]; exact ⟨lt, hb⟩) z)))
          rw [ss] at rd3
          rw [nI_1]
          refine ihT d10 (sk B L p + 1) e k q r3 u (12 :: S) G _ ⟨lt, rd3, ok, Or.inl rfl, fun _ => g rfl⟩ (by show S.length + 1 ≤ 3 * (d + 1); omega) (Or.inr rfl) hk he hG (fun F1 p1 e1 k1 C q1 r4 u1 c1 o1 t1 => ?_)
          have sp1 : sk B L p1 ≤ L := (fw_ok (isBl B) c1.1).2.1
          by_cases z : F1 = 0
          · subst z
            obtain ⟨⟨kp1, a1, a2, a3, a4, a5, a6, ty⟩, sk1⟩ := o1 rfl
            have b1 : (10 - d) * C = (10 - (d + 1)) * C + C := by rw [show 10 - d = (10 - (d + 1)) + 1 by omega, Nat.add_mul, Nat.one_mul]
            have ce := chr_eq (B := B) (L := L) (q := p1) (w := 93) (by omega) (fun c => (tx.2 _ c).1)
            refine cp_take (w := 93) tx (by omega) c1.1 c1.2.1 (fun z1 z2 r5 rd5 => ?_) (fun z1 r5 rd5 => ?_)
            · rw [sk1] at z1 z2 rd5
              refine hq 0 (p1 + 1) e1 k1 C q1 r5 u1 ⟨z1, rd5, c1.2.2.1, Or.inl rfl, fun _ => c1.2.2.2.2 rfl⟩ (fun _ => ⟨kp1, a1, a2, a3, a4, by omega, by omega, ty⟩) ?_
              refine refB hc d10 (fun m n pm w hn hf h0 => t1 m n pm w hn (fun z => absurd rfl z) (fun _ m' n' f' w' h1 => ?_))
              obtain ⟨n', rfl⟩ : ∃ x, n' = x + 1 := ⟨n' - 1, by omega⟩
              unfold TB
              have hS' : (12 :: S).length ≤ 60 := by show S.length + 1 ≤ 60; omega
              have rm := MS_rm w'.1
              refine mp_top w' hS' (br_nt rfl (mp_sign (MC_tx tx w'.1.1) rm (by omega) (br_t (ce.mpr ⟨z1, z2⟩) ?_)))
              unfold PX9_test_b164
              rw [rm.2.1, nI_1]
              rintro _ rfl _ rfl
              have e38 : (si m' 31 (nI (p1 + 1))).1 38 = nI (S.length + 1) := w'.2.2.1
              rw [e38, nI_dn1]
              rintro _ rfl _ rfl
              have e36 : (si (si m' 31 (nI (p1 + 1))) 38 (nI S.length)).1 36 = nI (d + 1) := w'.2.1
              rw [e36, nI_dn1]
              rintro _ rfl _ rfl
              have f6 : Fr [36, 38] [47] [] [] (si m' 31 (nI (p1 + 1))) (si (si (si m' 31 (nI (p1 + 1))) 38 (nI S.length)) 36 (nI d)) := Fr_si (by decide) (Fr_si (by decide) Fr_refl)
              have w6 := MS_47 (TS_p w' (p1 + 1) z1).1 f6
              refine L9_0 w6.2.1 ⟨S.length + 1, h0 rfl _ n' _ (FX_trans f' (FX_trans FX_p (FX_TI f6 (by decide) (Or.inl rfl)))) ⟨w6, rfl, rfl, w'.2.2.2.2⟩ (by omega) (Nat.le_refl _)⟩
            · rw [sk1] at z1 rd5
              rw [fst_z] at rd5
              have nz : ¬ flt p1 0 = 0 := flt_ne (k := 0) (by have := c1.1; omega) (by omega)
              refine hq (flt p1 0) p1 e1 k1 C q1 r5 u1 (CS_F nz (FOk_f0 (by have := c1.1; omega)) c1.1 rd5 c1.2.2.1) (fun y => absurd y nz) ?_
              refine refB hc d10 (fun m n pm w hn hf h0 => t1 m n pm w hn (fun z => absurd rfl z) (fun _ m' n' f' w' h1 => ?_))
              have hp1 := c1.1
              obtain ⟨n', rfl⟩ : ∃ x, n' = x + 1 := ⟨n' - 1, by omega⟩
              unfold TB
              have hS' : (12 :: S).length ≤ 60 := by show S.length + 1 ≤ 60; omega
              have rm := MS_rm w'.1
              refine mp_top w' hS' (br_nt rfl (mp_sign (MC_tx tx w'.1.1) rm (by omega) (br_f (fun y => z1 (ce.mp y)) ?_)))
              rw [rm.2.1]
              refine mp_fails (k := 0) rm (fun m2 f2 r2 => ?_)
              rw [fst_z] at r2
              unfold PX9_test_b164
              rw [r2.2.1, nI_1]
              rintro _ rfl _ rfl _ rfl _ rfl _ rfl _ rfl
              have f3 : Fr [31, 36, 38] [] [] [] m2 (si (si (si m2 31 (nI (p1 + 1))) 38 ((si m2 31 (nI (p1 + 1))).1 38 - 1)) 36 ((si (si m2 31 (nI (p1 + 1))) 38 ((si m2 31 (nI (p1 + 1))).1 38 - 1)).1 36 - 1)) := Fr_si (by decide) (Fr_si (by decide) (Fr_si (by decide) Fr_refl))
              have f23 := Fr_trans (Fr_mono f2 (I' := [31, 32, 36, 38]) (by decide) (fun _ h => h) (fun _ h => h) (fun _ h => h)) (Fr_mono f3 (I' := [31, 32, 36, 38]) (by decide) (fun _ h => h) (fun _ h => h) (fun _ h => h))
              refine L9_no (fun y => nz (r2.2.2.symm.trans y)) (hf nz _ (FX_trans f' (FX_TI f23 (by decide) (Or.inr rfl))) ?_)
              exact MS_F _ _ _ _ (MC_fr w'.1.1 f23 (by decide) (by decide)) nz r2.2.2 ⟨p1 + 1, by omega, rfl⟩
          · have fin : ∀ p5 r5, p5 ≤ L → RD r5 L p5 F1 → post q1 r5 u1 := fun p5 r5 hp5 rd5 => hq F1 p5 e1 k1 C q1 r5 u1 (CS_F z c1.2.2.2.1 hp5 rd5 c1.2.2.1) (fun y => absurd y z) (refB hc d10 (fun m n pm w hn hf h0 => t1 m n pm w hn (fun _ m' f' w' => hf z m' f' (MS_any z w')) (fun y => absurd y z)))
            refine cp_take (w := 93) tx (by omega) c1.1 c1.2.1 (fun z1 _ r5 rd5 => fin _ r5 z1 rd5) (fun _ r5 rd5 => ?_)
            rw [fst_n z] at rd5
            exact fin _ r5 sp1 rd5
        · exact deep (by omega) (Or.inr hc) r2 rd2 _ _
      · -- a sign
        unfold PX4_readFact_g_b35
        refine br_nt rfl (br_t rfl ?_)
        unfold PX4_readFact_g_b68
        refine br_t rfl (br_t rfl ?_)
        show PXfact t post q r2 u
        refine cs_fact tx hs hk (by omega) ⟨sp, rd2, ok, Or.inl rfl, fun _ => g rfl⟩ (fun F1 p1 e1 k1 q1 r3 u1 c1 o1 t1 => ?_)
        refine hq F1 p1 e1 k1 1 q1 r3 u1 c1 (fun z => ?_) (fun m n pm w hn hf h0 => ?_)
        · obtain ⟨kp1, a1, a2, a3, a4, a5, ty⟩ := o1 z
          exact ⟨kp1, by omega, a2, by omega, by omega, by omega, by omega, ty⟩
        · obtain ⟨n, rfl⟩ : ∃ n', n = n' + 2 := ⟨n - 2, by omega⟩
          refine L9_1 tx w (fun y => absurd y nm) (fun _ y => absurd y hc) (fun _ _ m1 fx1 w1 X hX => ?_)
          refine t1 m1 w1.1 X (fun m2 f2 w2 => hX m2 ?_)
          have fx2 : FX IT AT s m m2 := FX_trans fx1 (FX_T f2)
          by_cases z : F1 = 0
          · subst z
            have a5 := (o1 rfl).2.2.2.2.2.1
            exact L9_0 w2.2.1 ⟨S.length + 1, h0 rfl m2 n _ fx2 (TS_fr w1 f2 w2) (by omega) (Nat.le_refl _)⟩
          · exact L9_no (by rw [w2.2.1]; exact z) (hf z m2 fx2 w2)
  exact br_nc (fun z => key 0 (Or.inr ⟨rfl, z⟩)) (fun z => key 1 (Or.inl ⟨rfl, z⟩))
