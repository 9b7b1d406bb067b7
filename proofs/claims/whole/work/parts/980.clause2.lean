/-! 980: a clause of a rule, both sides -/
theorem mp_takes {t m : OV} {B : Nat → Nat} {L p s : Nat} {f : Int32} (tx : TX B L t m) (hs : s < 30) (hp : p ≤ L) (h : RM m L p f) {post : Int32 → OV → Prop} (h1 : MT B L (sk B L p) s → ∀ m', Fr [31] [] [] [] m m' → RM m' L (sk B L p + slen s) f → post 1 m') (h0 : ¬ MT B L (sk B L p) s → ∀ m', Fr [31] [] [] [] m m' → RM m' L (sk B L p) f → post 0 m') : PX9_takes m s post := by
  have sp : sk B L p ≤ L := (fw_ok (isBl B) hp).2.1
  unfold PX9_takes
  refine mp_blanks tx hp h (fun m1 f1 r1 => mp_stood (TX_fr f1 (by decide) tx) hs sp r1 ?_)
  by_cases y : MT B L (sk B L p) s
  · rw [zb_t y]
    refine br_f (by decide) ⟨hs, cp_len hs ?_⟩
    rw [r1.2.1, nI_add]
    rintro _ rfl _ rfl
    exact h1 y _ (Fr_trans f1 (Fr_si (by decide) Fr_refl)) ⟨r1.1, rfl, r1.2.2⟩
  · rw [zb_f y]
    refine br_t rfl ?_
    rw [r1.2.1, Int32.add_zero]
    rintro _ rfl _ rfl
    exact h0 y _ (Fr_trans f1 (Fr_si (by decide) Fr_refl)) ⟨r1.1, rfl, r1.2.2⟩
def CT (J : Nat) (pm : OV → Prop) (v14 : OV) : Prop := ∀ x16 : Int32, x16 = (v14.1 35) → (vp_in (nI J) 72 ∧ (∀ v18 : OV, v18 = sa v14 45 (upd (v14.2.1 45) J x16) → ((¬ (v18.1 32) = ((0 : Int32)) → PX9_ruleClause_b104 pm (nI J) v18) ∧ ((v18.1 32) = ((0 : Int32)) → (PX9_takes v18 29 (fun r21 v20 => ((r21 = ((0 : Int32)) → PX9_ruleClause_b104 pm (nI J) v20) ∧ (¬ r21 = ((0 : Int32)) → (PX9_test v20 (fun v24 => PX9_ruleClause_b104 pm (nI J) v24))))))))))
theorem mp_b104 {m : OV} {s i : Nat} (hs : s < 6) (hi : i < 12) {pm : OV → Prop} (hq : pm (sa m 46 (upd (m.2.1 46) (12 * s + i) (m.1 35)))) : PX9_ruleClause_b104 pm (nI (12 * s + i)) m := by
  unfold PX9_ruleClause_b104
  rintro _ rfl
  refine ⟨vp_in_q (by omega) (by omega), ?_⟩
  rw [nI_31 (show 12 * s + i < 1000 by omega)]
  rintro _ rfl
  exact hq
theorem cs_clause {t m0 q r u : OV} {B : Nat → Nat} {L s p e k i G : Nat} (tx : TX B L t m0) (hs : s < 6) (hi : i ≤ 12) (h4 : u.1 4 = nI i) (hk : k ≤ 60) (he : e ≤ 2 * k + 8 * G) (hG : 3 * G ≤ k) (c : CS L 0 p e k q r u) {post : OV → OV → OV → Prop} (hq : ∀ F' p' e' k' b q' r' u', CS L F' p' e' k' q' r' u' → (F' = 0 → ClO L p e k i p' e' k' b u u') → TC m0 L s p e k i (u.2.1 0) F' p' e' k' b (u'.2.1 0) → post q' r' u') : PXclause t (nI i) post q r u := by
  obtain ⟨hp, rd, ok, fo, g⟩ := id c
  have l4 := tx.1
  have sp : sk B L p ≤ L := (fw_ok (isBl B) hp).2.1
  have pk : p ≤ sk B L p := (fw_ok (isBl B) hp).1
  have ss := sk_sk (B := B) hp
  have fail : ∀ kk, kk < 8 → (MT B L (sk B L p) 28 → i = 12 ∧ kk = 4) → (¬ MT B L (sk B L p) 28 → kk = 0) → ∀ r2, RD r2 L (sk B L p) (flt (sk B L p) (nI kk)) → PX4_readSum q r2 u t (fun v_q5 v_r6 v_u7 => (PX3_beginTest v_u7 (fun v_u9 => (PX2_takeWord v_r6 t 1 (fun r12 v_r11 => ((r12 = ((0 : Int32)) → post v_q5 v_r11 v_u9) ∧ (¬ r12 = ((0 : Int32)) → (PX4_readTest v_q5 v_r11 v_u9 t ((0 : Int32)) (fun v_q15 v_r16 v_u17 => post v_q15 v_r16 v_u17))))))))) := by
    intro kk hkk c1 c2 r2 rd2
    have nz : ¬ flt (sk B L p) (nI kk) = 0 := flt_ne (by omega) hkk
    refine cs_sum_no nz rd2 (cs_clause_fault tx nz sp rd2 ok (fun p' q' r' u' hp' rd' ok' => ?_))
    refine hq _ p' e k 0 q' r' u' (CS_F nz (FOk_flt (by omega) hkk) hp' rd' ok') (fun z => absurd z nz) (fun m pm w d0 hpm => ?_)
    unfold PX9_ruleClause
    refine mp_blanks (MC_tx tx w.1) hp (MS_rm w) (fun m1 f1 r1 => ?_)
    have f1' : Fr [31, 32] [] [] [] m m1 := Fr_mono f1 (by decide) (by decide) (by decide) (by decide)
    have w1 := MS_mv w f1' r1 sp
    rw [r1.2.1]
    rintro _ rfl
    have fin : ∀ m2, Fr [32] [] [] [] m1 m2 → RM m2 L (sk B L p) (flt (sk B L p) (nI kk)) → pm m2 := by
      intro m2 f2 r2'
      have f2' : Fr [31, 32] [] [] [] m m2 := Fr_trans f1' (Fr_mono f2 (by decide) (by decide) (by decide) (by decide))
      exact hpm m2 (FY_X (FX_TI f2' (by decide) (Or.inr rfl))) (MS_F _ _ _ _ (MC_fr w.1 f2' (by decide) (by decide)) nz r2'.2.2 ⟨_, by omega, r2'.2.1⟩) (fun z => absurd z nz)
    refine mp_stood (MC_tx tx w1.1) (show (28:Nat) < 30 by decide) sp r1 ?_
    by_cases y : MT B L (sk B L p) 28
    · obtain ⟨e12, rfl⟩ := c1 y
      rw [zb_t y]
      refine br_nf (by decide) (br_nt (by rw [e12]; rfl) (mp_fails (k := nI 4) r1 (fun m2 f2 r2' => ?_)))
      rw [fst_z] at r2'
      exact fin m2 f2 r2'
    · obtain rfl := c2 y
      rw [zb_f y]
      refine br_nt rfl (mp_fails (k := nI 0) r1 (fun m2 f2 r2' => ?_))
      rw [fst_z] at r2'
      exact fin m2 f2 r2'
  unfold PXclause
  refine cp_begC tx hi hp rd (fun y r2 rd2 => ?_) (fun y i12 r2 rd2 => ?_) (fun y i12 le r2 rd2 => ?_)
  · exact fail 0 (by omega) (fun z => absurd ((MT_eq s_look).mpr z) y) (fun _ => rfl) r2 rd2
  · exact fail 4 (by omega) (fun _ => ⟨i12, rfl⟩) (fun z => absurd ((MT_eq s_look).mp y) z) r2 rd2
  · -- a clause's sum
    have y28 : MT B L (sk B L p) 28 := (MT_eq s_look).mp y
    have refS : ∀ {F' : Int32} {p' e' k' b : Nat} {st' : Nat → Int32}, (∀ m (pm : OV → Prop), MS m0 L s 0 (sk B L p + 4) e k (u.2.1 0) m → m.1 36 = 0 → m.2.1 44 (12 * s + i) = nI e → (∀ m', FY s i m m' → MS m0 L s F' p' e' k' st' m' → (F' = 0 → m'.1 36 = 0 ∧ m'.2.1 44 (12 * s + i) = nI e ∧ m'.2.1 45 (12 * s + i) = nI b ∧ m'.2.1 46 (12 * s + i) = nI e') → pm m') → PX9_sum m (CT (12 * s + i) pm)) → TC m0 L s p e k i (u.2.1 0) F' p' e' k' b st' := by
      intro F' p' e' k' b st' gg m pm w d0 hpm
      unfold PX9_ruleClause
      refine mp_blanks (MC_tx tx w.1) hp (MS_rm w) (fun m1 f1 r1 => ?_)
      have f1' : Fr [31, 32] [] [] [] m m1 := Fr_mono f1 (by decide) (by decide) (by decide) (by decide)
      have w1 := MS_mv w f1' r1 sp
      rw [r1.2.1]
      rintro _ rfl
      refine mp_stood (MC_tx tx w1.1) (show (28:Nat) < 30 by decide) sp r1 ?_
      rw [zb_t y28]
      refine br_nf (by decide) (br_nf (fun z => ?_) ?_)
      · have : i = 12 := nI_inj (b := 12) (by omega) (by omega) z
        omega
      · rw [show nI (sk B L p) + (4 : Int32) = nI (sk B L p + 4) from nI_add _ 4]
        rintro _ rfl _ rfl
        have f2 : Fr [31, 32] [] [] [] m1 (si m1 31 (nI (sk B L p + 4))) := Fr_si (by decide) Fr_refl
        have w2 : MS m0 L s 0 (sk B L p + 4) e k (u.2.1 0) (si m1 31 (nI (sk B L p + 4))) := MS_mv w1 f2 ⟨r1.1, rfl, r1.2.2⟩ le
        rw [w2.1.2.2.1, show (12 : Int32) * nI s + nI i = nI (12 * s + i) from nI_lin 12 s i, (w2.2.2.2 rfl).2.2.1]
        rintro _ rfl _ rfl
        refine ⟨vp_in_q (by omega) (by omega), ?_⟩
        rw [nI_31 (show 12 * s + i < 1000 by omega)]
        rintro _ rfl
        have fy : FY s i m (sa (si m1 31 (nI (sk B L p + 4))) 44 (upd ((si m1 31 (nI (sk B L p + 4))).2.1 44) (12 * s + i) (nI e))) := FY_trans (FY_X (FX_TI (Fr_trans f1' f2) (by decide) (Or.inr rfl))) (FY_sa (Or.inl rfl))
        have d1 : m1.1 36 = 0 := (f1.1 36 (by decide)).trans d0
        exact gg (sa (si m1 31 (nI (sk B L p + 4))) 44 (upd ((si m1 31 (nI (sk B L p + 4))).2.1 44) (12 * s + i) (nI e))) pm (MS_sa (Or.inl rfl) w2) d1 (upd_eq _ _ _) (fun m' f' w' h' => hpm m' (FY_trans fy f') w' h')
    refine cs_sum tx hs hk (by omega) (p := sk B L p + 4) ⟨le, rd2, ok, Or.inl rfl, fun _ => g rfl⟩ (fun F1 p1 e1 k1 q1 r1 u1 c1 o1 tr1 => ?_)
    by_cases nz : F1 = 0
    · subst nz
      obtain ⟨kp1, a1, a2, a3, a4, a5, ty1'⟩ := o1 rfl
      have hp1 := c1.1
      have u14 : u1.1 4 = nI i := kp1.1.1.trans h4
      refine cp_begT (c1.2.2.2.2 rfl).2 u14 i12 ?_
      have ok2 : Uok (sa u1 3 (upd (u1.2.1 3) i (nI e1))) := by
        obtain ⟨n, c, hn, hc, h1, h4, h2⟩ := c1.2.2.1
        exact ⟨n, c, hn, hc, h1, h4, h2⟩
      have tyS1 : TyU (u1.2.1 0) e e1 [] [false] := ty1' [] (Nat.zero_le k)
      -- the reference up to the word if
      have refI : ∀ {F' : Int32} {p' e' k' : Nat} {st' : Nat → Int32}, (∀ m (pm : OV → Prop), MS m0 L s 0 p1 e1 k1 (u1.2.1 0) m → m.1 36 = 0 → m.2.1 44 (12 * s + i) = nI e → m.2.1 45 (12 * s + i) = nI e1 → (∀ m', FY s i m m' → MS m0 L s F' p' e' k' st' m' → (F' = 0 → m'.1 36 = 0 ∧ m'.2.1 44 (12 * s + i) = nI e ∧ m'.2.1 45 (12 * s + i) = nI e1 ∧ m'.2.1 46 (12 * s + i) = nI e') → pm m') → PX9_takes m 29 (fun r21 v20 => ((r21 = ((0 : Int32)) → PX9_ruleClause_b104 pm (nI (12 * s + i)) v20) ∧ (¬ r21 = ((0 : Int32)) → (PX9_test v20 (fun v24 => PX9_ruleClause_b104 pm (nI (12 * s + i)) v24)))))) → TC m0 L s p e k i (u.2.1 0) F' p' e' k' e1 st' := by
        intro F' p' e' k' st' gg
        refine refS (fun m pm w d0 e44 hpm => tr1 m w _ (fun m1 f1 w1 => ?_))
        unfold CT
        rw [(w1.2.2.2 rfl).2.2.1]
        rintro _ rfl
        refine ⟨vp_in_q (by omega) (by omega), ?_⟩
        rintro _ rfl
        have w2 : MS m0 L s 0 p1 e1 k1 (u1.2.1 0) (sa m1 45 (upd (m1.2.1 45) (12 * s + i) (nI e1))) := MS_sa (Or.inr (Or.inl rfl)) w1
        refine br_nt w2.2.1 ?_
        have fy : FY s i m (sa m1 45 (upd (m1.2.1 45) (12 * s + i) (nI e1))) := FY_trans (FY_X (FX_T f1)) (FY_sa (Or.inr (Or.inl rfl)))
        have d1 : m1.1 36 = 0 := (f1.1.1 36 (by decide)).trans d0
        have e44' : m1.2.1 44 (12 * s + i) = nI e := by rw [f1.1.2.1 44 (by decide) (by decide)]; exact e44
        exact gg _ pm w2 d1 e44' (upd_eq _ _ _) (fun m' f' w' h' => hpm m' (FY_trans fy f') w' h')
      refine cp_takeWord tx (s := 1) (by omega) (by omega) hp1 c1.2.1 (fun z r3 rd3 le3 => br_f (by decide) ?_) (fun z r3 rd3 => br_t rfl ?_)
      · -- if
        rw [a4] at z rd3 le3
        have z29 : MT B L p1 29 := (MT_eq s_if).mp z
        have sl1 : slen 1 = slen 29 := s_lens.2.2.2.2.2.2.2.2
        refine cs_test tx hs (p1 + slen 1) e1 k1 q1 r3 _ [] G _ ⟨le3, rd3, ok2, Or.inl rfl, fun _ => c1.2.2.2.2 rfl⟩ (by show 0 ≤ 3 * 0; omega) (Or.inl rfl) a2 (by omega) (by omega) (fun F5 p5 e5 k5 C q5 r5 u5 c5 o5 t5 => ?_)
        have gT : ∀ m (pm : OV → Prop), MS m0 L s 0 p1 e1 k1 (u1.2.1 0) m → m.1 36 = 0 → m.2.1 44 (12 * s + i) = nI e → m.2.1 45 (12 * s + i) = nI e1 → (∀ m', FY s i m m' → MS m0 L s F5 p5 e5 k5 (u5.2.1 0) m' → (F5 = 0 → m'.1 36 = 0 ∧ m'.2.1 44 (12 * s + i) = nI e ∧ m'.2.1 45 (12 * s + i) = nI e1 ∧ m'.2.1 46 (12 * s + i) = nI e5) → pm m') → PX9_takes m 29 (fun r21 v20 => ((r21 = ((0 : Int32)) → PX9_ruleClause_b104 pm (nI (12 * s + i)) v20) ∧ (¬ r21 = ((0 : Int32)) → (PX9_test v20 (fun v24 => PX9_ruleClause_b104 pm (nI (12 * s + i)) v24))))) := by
          intro m pm w d0 e44 e45 hpm
          refine mp_takes (MC_tx tx w.1) (show (29:Nat) < 30 by decide) hp1 (MS_rm w) (fun _ m2 f2 r2 => br_f (by decide) ?_) (fun y => absurd (by rw [a4]; exact z29) y)
          rw [a4, ← sl1] at r2
          have f2' : Fr [31, 32] [] [] [] m m2 := Fr_mono f2 (by decide) (by decide) (by decide) (by decide)
          have w2 := MS_mv w f2' r2 le3
          unfold PX9_test
          rintro _ rfl
          have f3 : Fr [36, 38] [47] [] [] m2 (si m2 38 0) := Fr_si (by decide) Fr_refl
          have w3 := MS_47 w2 f3
          have fx3 : FX IT AT s m (si m2 38 0) := FX_trans (FX_TI f2' (by decide) (Or.inr rfl)) (FX_TI f3 (by decide) (Or.inl rfl))
          have ts3 : TS m0 L s (p1 + slen 1) e1 k1 (u1.2.1 0) [] 0 (si m2 38 0) := ⟨w3, (f2.1 36 (by decide)).trans d0, rfl, trivial⟩
          refine ⟨L + 4, t5 _ (L + 4) _ ts3 (by omega) (fun nz m' f' w' => ?_) (fun z5 m' n' f' w' hn' => ?_)⟩
          · refine mp_b104 hs i12 (hpm _ (FY_trans (FY_X (FX_trans fx3 f')) (FY_sa (Or.inr (Or.inr rfl)))) (MS_sa (Or.inr (Or.inr rfl)) w') (fun y => absurd y nz))
          · subst z5
            have hp5 := c5.1
            obtain ⟨n', rfl⟩ : ∃ x, n' = x + 1 := ⟨n' - 1, by omega⟩
            unfold TB
            refine mp_top w' (by show 0 ≤ 60; omega) (br_nf (by decide) (L9_end (mp_b104 hs i12 ?_)))
            have fx := FX_trans fx3 f'
            refine hpm _ (FY_trans (FY_X fx) (FY_sa (Or.inr (Or.inr rfl)))) (MS_sa (Or.inr (Or.inr rfl)) w'.1) (fun _ => ⟨w'.2.1, ?_, ?_, ?_⟩)
            · show m'.2.1 44 (12 * s + i) = nI e
              rw [fx.1.2.1 44 (by decide) (by decide)]; exact e44
            · show m'.2.1 45 (12 * s + i) = nI e1
              rw [fx.1.2.1 45 (by decide) (by decide)]; exact e45
            · show upd (m'.2.1 46) (12 * s + i) (m'.1 35) (12 * s + i) = nI e5
              rw [upd_eq]; exact (w'.1.2.2.2 rfl).2.2.1
        refine hq F5 p5 e5 k5 e1 q5 r5 u5 c5 (fun z5 => ?_) (refI gT)
        obtain ⟨⟨kp5, b1, b2, b3, b4, b5, b6, ty5⟩, _⟩ := o5 z5
        have b10 := Nat.mul_le_mul_right C (show 10 - 0 ≤ 10 by omega)
        refine ⟨i12, ?_, ?_, ?_, ?_, by omega, b1, by omega, b2, by omega, ⟨G + C, by omega, by omega⟩, ?_, fun _ => ty5 [] (Nat.zero_le _)⟩
        · exact kp5.1.1.trans kp1.1.1
        · exact kp5.1.2.1.trans kp1.1.2.1
        · rw [kp5.1.2.2]
          show upd (u1.2.1 3) i (nI e1) = upd (u.2.1 3) i (nI e1)
          rw [kp1.1.2.2]
        · exact PE_trans (by omega) kp1.2 kp5.2
        · exact TyU_fr tyS1 (fun j hj => kp5.2 j hj)
      · -- no test
        rw [a4] at z rd3
        have z29 : ¬ MT B L p1 29 := fun y => z ((MT_eq s_if).mpr y)
        refine hq 0 p1 e1 k1 e1 q1 r3 _ ⟨hp1, rd3, ok2, Or.inl rfl, fun _ => c1.2.2.2.2 rfl⟩ (fun _ => ⟨i12, kp1.1.1, kp1.1.2.1, ?_, kp1.2, by omega, Nat.le_refl _, by omega, a2, by omega, ⟨G, by omega, by omega⟩, tyS1, fun y => absurd y (Nat.lt_irrefl _)⟩) (refI (fun m pm w d0 e44 e45 hpm => ?_))
        · show upd (u1.2.1 3) i (nI e1) = upd (u.2.1 3) i (nI e1)
          rw [kp1.1.2.2]
        · refine mp_takes (MC_tx tx w.1) (show (29:Nat) < 30 by decide) hp1 (MS_rm w) (fun y => absurd (by rw [a4] at y; exact y) z29) (fun _ m2 f2 r2 => br_t rfl (mp_b104 hs i12 ?_))
          rw [a4] at r2
          have f2' : Fr [31, 32] [] [] [] m m2 := Fr_mono f2 (by decide) (by decide) (by decide) (by decide)
          have w2 := MS_mv w f2' r2 hp1
          refine hpm _ (FY_trans (FY_X (FX_TI f2' (by decide) (Or.inr rfl))) (FY_sa (Or.inr (Or.inr rfl)))) (MS_sa (Or.inr (Or.inr rfl)) w2) (fun _ => ⟨(f2.1 36 (by decide)).trans d0, ?_, ?_, ?_⟩)
          · show m2.2.1 44 (12 * s + i) = nI e
            rw [f2.2.1 44 (by decide) (by decide)]; exact e44
          · show m2.2.1 45 (12 * s + i) = nI e1
            rw [f2.2.1 45 (by decide) (by decide)]; exact e45
          · show upd (m2.2.1 46) (12 * s + i) (m2.1 35) (12 * s + i) = nI e1
            rw [upd_eq]; exact (w2.2.2.2 rfl).2.2.1
    · refine cs_clause_fault tx nz c1.1 c1.2.1 c1.2.2.1 (fun p' q' r' u' hp' rd' ok' => ?_)
      refine hq F1 p' e k 0 q' r' u' (CS_F nz c1.2.2.2.1 hp' rd' ok') (fun z => absurd z nz) (refS (fun m pm w d0 e44 hpm => tr1 m w _ (fun m1 f1 w1 => ?_)))
      unfold CT
      rintro _ rfl
      refine ⟨vp_in_q (by omega) (by omega), ?_⟩
      rintro _ rfl
      have fy : FY s i m (sa m1 45 (upd (m1.2.1 45) (12 * s + i) (m1.1 35))) := FY_trans (FY_X (FX_T f1)) (FY_sa (Or.inr (Or.inl rfl)))
      refine br_nf (fun y => nz (w1.2.1.symm.trans y)) (mp_b104 hs i12 (hpm _ (FY_trans fy (FY_sa (Or.inr (Or.inr rfl)))) (MS_any nz (MS_sa (Or.inr (Or.inr rfl)) (MS_sa (Or.inr (Or.inl rfl)) w1))) (fun y => absurd y nz)))
