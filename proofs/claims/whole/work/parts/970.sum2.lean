/-! 970: reading a sum of a rule, both sides -/
def RV (μ : Int32) (W : (OV → Prop) → OV → Prop) (m : OV) (pm : OV → Prop) : Prop := PX9_value m (fun m1 => EN μ m1 (fun m2 => PX9_blanks m2 (fun m3 => W pm m3)))
def LW (a : Int32) (ns nt : Nat) (W : (OV → Prop) → OV → Prop) : Prop := ∃ P4 : (OV → Prop) → OV → Prop, (∀ pm m4, EN a m4 (fun m5 => PX9_sum_L4 pm ns m5) → P4 pm m4) ∧ ∀ pm m3, PX9_term_L8 (P4 pm) nt m3 → W pm m3
theorem RV_fault {t m0 m : OV} {B : Nat → Nat} {L s p e k : Nat} {F : Int32} {st : Nat → Int32} {a μ : Int32} {ns nt : Nat} {W : (OV → Prop) → OV → Prop} (lw : LW a (ns + 1) (nt + 1) W) (tx : TX B L t m0) (nz : ¬ F = 0) (w : MS m0 L s F p e k st m) {pm : OV → Prop} (hq : ∀ m', FX IR AR s m m' → MS m0 L s F p e k st m' → pm m') : EN μ m (fun m2 => PX9_blanks m2 (fun m3 => W pm m3)) := by
  obtain ⟨mc, e32, ⟨q, hq1, e31⟩, _⟩ := id w
  refine EN_no (by rw [e32]; exact nz) (mp_blanks1 (MC_tx tx mc) hq1 ⟨mc.2.1, e31, e32⟩ (fun m' p' f' hp' r' => ?_))
  have nz' : ¬ m'.1 32 = 0 := by rw [r'.2.2]; exact nz
  obtain ⟨P4, l4w, lw⟩ := lw
  refine lw _ _ ?_
  unfold PX9_term_L8
  refine br_nf nz' (l4w _ _ (EN_no nz' ?_))
  unfold PX9_sum_L4
  refine br_nf nz' (hq m' (FX_mono (FX_fr f' (by decide) (by decide)) (by decide) (by decide)) ?_)
  exact MS_F _ _ _ _ (MC_fr mc f' (by decide) (by decide)) nz r'.2.2 ⟨p', hp', r'.2.1⟩
theorem cs_sum_fault {t m0 q r u : OV} {B : Nat → Nat} {L p e k n : Nat} {F a μ i : Int32} (tx : TX B L t m0) (nz : ¬ F = 0) (c : CS L F p e k q r u) {post : OV → OV → OV → Prop} (hq : ∀ p' r' u', CS L F p' e k q r' u' → post q r' u') : PX4_readSum_b39 t (PX4_readSum_L6 t post (n + 1)) post a i q r u := by
  obtain ⟨hp, rd, ok, foc, _⟩ := id c
  have lp : ∀ {p' : Nat} {r' u' : OV} (a' μ' i' : Int32), p' ≤ L → RD r' L p' F → Uok u' → PX4_readSum_L6 t post (n + 1) a' μ' i' q r' u' := by
    intro p' r' u' a' μ' i' hp' rd' ok'
    unfold PX4_readSum_L6
    have g := hq p' r' u' (CS_F nz foc hp' rd' ok')
    exact br_c (fun _ => g) (fun _ => br_nf (by rw [rd'.2.2]; exact nz) g)
  have b82 : ∀ {p' : Nat} {r' u' : OV} (a' μ' : Int32), p' < L → RD r' L p' F → Uok u' → PX4_readSum_b82 t (PX4_readSum_L6 t post (n + 1)) post a' μ' i q r' u' := by
    intro p' r' u' a' μ' hp' rd' ok'
    unfold PX4_readSum_b82
    refine cp_pass (n := 1) rd' tx.1 (by omega) (fun r2 rd2 => ?_)
    rintro _ rfl
    exact lp _ _ _ (by omega) rd2 ok'
  have b66 : ∀ {p' : Nat} {r' u' : OV} (μ' : Int32), p' ≤ L → RD r' L p' F → Uok u' → PX4_readSum_b66 t (PX4_readSum_L6 t post (n + 1)) post μ' i q r' u' := by
    intro p' r' u' μ' hp' rd' ok'
    unfold PX4_readSum_b66
    have sp : sk B L p' ≤ L := (fw_ok (isBl B) hp').2.1
    refine cp_next tx hp' rd' (fun r2 rd2 => cp_add (br_nc (fun y => b82 _ _ (oA_lt y) rd2 ok') (fun _ => hq _ _ _ (CS_F nz foc sp rd2 ok'))))
  unfold PX4_readSum_b39
  have sp : sk B L p ≤ L := (fw_ok (isBl B) hp).2.1
  refine cp_next tx hp rd (fun r2 rd2 => cp_mul (br_nc (fun y => b82 _ _ (oM_lt y) rd2 ok) (fun _ => br_c (fun _ => b66 _ sp rd2 ok) (fun _ => ?_))))
  exact cp_put_ok ok (fun u' ok' _ => b66 _ sp rd2 ok')
theorem cs_loop {t m0 : OV} {B : Nat → Nat} {L s : Nat} (tx : TX B L t m0) (hs : s < 6) {post : OV → OV → OV → Prop} : ∀ d k, k + d = 60 → ∀ p e q r u a μ i n, CS L 0 p e k q r u → i ≤ k → d + 2 ≤ n → okX a → okX μ → e + wt a + wt μ ≤ 2 * k + 162 → (∀ F' p' e' k' q' r' u', CS L F' p' e' k' q' r' u' → (F' = 0 → KP e u u' ∧ k + 1 ≤ k' ∧ k' ≤ 60 ∧ e' + 1 = e + 2 * (k' - k) + wt a + wt μ ∧ sk B L p' = p' ∧ p ≤ p' ∧ (∀ τ, τ.length + wt a + wt μ ≤ k → TyU (u'.2.1 0) e e' (fal (wt μ) (fal (wt a) τ)) (false :: τ))) → (∀ ns nt W, d + 2 ≤ ns → d + 2 ≤ nt → LW a ns nt W → TR m0 L s p e k (u.2.1 0) F' p' e' k' (u'.2.1 0) IR AR (RV μ W)) → post q' r' u') → PX4_readSum_L6 t post n a μ (nI i) q r u := by
  intro d
  induction d with
  | zero =>
    intro k hkd p e q r u a μ i n c hi hn oka okm hb hq
    obtain ⟨n, rfl⟩ : ∃ n', n = n' + 2 := ⟨n - 2, by omega⟩
    unfold PX4_readSum_L6
    refine br_f (fr_nle (b := 400) (by omega) (by omega)) (br_nt c.2.1.2.2 (cs_value tx hs (by omega) (by omega) c (fun F1 p1 q1 r1 u1 c1 o1 tr1 => ?_)))
    have nz : ¬ F1 = 0 := fun z => by have := (o1 z).2.2.1; omega
    have fin : ∀ u2, Uok u2 → PX4_readSum_b39 t (PX4_readSum_L6 t post (n + 1)) post a (nI i) q1 r1 u2 := fun u2 ok2 => by
      refine cs_sum_fault (μ := μ) tx nz (CS_F (p := p1) (e := e + 1) (k := k + 1) nz c1.2.2.2.1 c1.1 c1.2.1 ok2) (fun p' r' u' c' => ?_)
      refine hq F1 p' (e + 1) (k + 1) q1 r' u' c' (fun z => absurd z nz) (fun ns nt W h1 h2 lw => ?_)
      obtain ⟨ns, rfl⟩ : ∃ n', ns = n' + 1 := ⟨ns - 1, by omega⟩
      obtain ⟨nt, rfl⟩ : ∃ n', nt = n' + 1 := ⟨nt - 1, by omega⟩
      intro m w pm hpm
      unfold RV
      refine tr1 m w _ (fun m1 f1 w1 => RV_fault lw tx nz w1 (fun m' f' w' => hpm m' (FX_trans f1 f') ?_))
      exact MS_F _ _ _ _ w'.1 nz w'.2.1 w'.2.2.1
    refine br_c (fun _ => fin u1 c1.2.2.1) (fun _ => cp_put_ok c1.2.2.1 (fun u2 ok2 _ => fin u2 ok2))
  | succ d ih =>
    intro k hkd p e q r u a μ i n c hi hn oka okm hb hq
    obtain ⟨n, rfl⟩ : ∃ n', n = n' + 2 := ⟨n - 2, by omega⟩
    unfold PX4_readSum_L6
    refine br_f (fr_nle (b := 400) (by omega) (by omega)) (br_nt c.2.1.2.2 (cs_value tx hs (by omega) (by omega) c (fun F1 p1 q1 r1 u1 c1 o1 tr1 => ?_)))
    by_cases nz : F1 = 0
    · subst nz
      obtain ⟨uf1, pe1, k1, push, pp1⟩ := o1 rfl
      refine cs_en (m0 := m0) (s := s) okm hs (by omega) c1 (fun u2 c2 kp2 ty2' tr2 => ?_)
      obtain ⟨hp1, rd1, ok2, foc2, _⟩ := id c2
      have sp : sk B L p1 ≤ L := (fw_ok (isBl B) hp1).2.1
      have pk1 : p1 ≤ sk B L p1 := (fw_ok (isBl B) hp1).1
      have kp02 : KP e u u2 := KP_trans (Nat.le_succ e) ⟨uf1, pe1⟩ kp2
      have ty02 : ∀ τ, τ.length + wt μ ≤ k → TyU (u2.2.1 0) e (e + 1 + wt μ) (fal (wt μ) τ) (false :: τ) := by
        intro τ hτ
        refine TyU_trans (TyU_one ?_) (ty2' τ)
        rw [kp2.2 e (Nat.lt_succ_self e)]
        unfold ty1
        rw [if_neg push, if_pos (by rw [fal_len]; omega)]
      unfold PX4_readSum_b39
      refine cp_next tx hp1 rd1 (fun r2 rd2 => cp_mul (br_nc (fun y => ?_) (fun y => ?_)))
      · -- a multiplier
        have lt := oM_lt y
        unfold PX4_readSum_b82
        refine cp_pass (n := 1) rd2 tx.1 (by omega) (fun r3 rd3 => ?_)
        rw [nI_1]
        rintro _ rfl
        have wy := wt_1 y
        refine ih (k + 1) (by omega) (sk B L p1 + 1) (e + 1 + wt μ) q1 r3 u2 a (oM B L (sk B L p1)) (i + 1) (n + 1) ⟨by omega, rd3, ok2, Or.inl rfl, fun _ => c2.2.2.2.2 rfl⟩ (by omega) (by omega) oka (okM _ _ _) (by omega) (fun F' p' e' k' q' r' u' c' o' tr' => ?_)
        refine hq F' p' e' k' q' r' u' c' (fun z => ?_) (fun ns nt W h1 h2 lw => ?_)
        · obtain ⟨kp', g1, g2, g3, g4, gp, g5⟩ := o' z
          refine ⟨KP_trans (by omega) kp02 kp', by omega, g2, by omega, g4, by omega, fun τ hτ => ?_⟩
          have x1 := TyU_fr (ty02 (fal (wt a) τ) (by rw [fal_len]; omega)) (fun j hj => kp'.2 j hj)
          have x2 := g5 τ (by omega)
          rw [wy] at x2
          exact TyU_trans x1 x2
        · obtain ⟨nt, rfl⟩ : ∃ n', nt = n' + 1 := ⟨nt - 1, by omega⟩
          intro m w pm hpm
          unfold RV
          refine tr1 m w _ (fun m1 f1 w1 => tr2 m1 _ w1 (fun m2 f2 w2 => ?_))
          refine mp_blanks (MC_tx tx w2.1) hp1 (MS_rm w2) (fun m3 f3 r3 => ?_)
          have f3' : Fr [31, 32] [] [] [] m2 m3 := Fr_mono f3 (by decide) (by decide) (by decide) (by decide)
          have w3 := MS_mv w2 f3' r3 sp
          obtain ⟨P4, l4w, lw⟩ := lw
          refine lw _ _ ?_
          refine mp_L8 (MC_tx tx w3.1) sp r3 (fun z => absurd z y) (fun _ => ?_)
          unfold PX9_term_b72
          rw [r3.2.1, nI_1]
          rintro _ rfl _ rfl
          have f4 : Fr [31, 32] [] [] [] m3 (si m3 31 (nI (sk B L p1 + 1))) := Fr_si (by decide) Fr_refl
          have w4 := MS_mv (p' := sk B L p1 + 1) w3 f4 ⟨r3.1, rfl, r3.2.2⟩ (by omega)
          have := tr' ns nt (fun pm m3 => PX9_term_L8 (P4 pm) nt m3) (by omega) (by omega) ⟨P4, l4w, fun _ _ h => h⟩ _ w4 pm (fun m' f' w' => hpm m' (FX_trans f1 (FX_trans f2 (FX_trans (FX_31 f3' (by decide) (by decide)) (FX_trans (FX_31 f4 (by decide) (by decide)) f')))) w')
          unfold RV at this
          rw [EN_n y] at this
          exact this
      · -- none
        have c2' : CS L 0 (sk B L p1) (e + 1 + wt μ) (k + 1) q1 r2 u2 := ⟨sp, rd2, ok2, Or.inl rfl, fun _ => c2.2.2.2.2 rfl⟩
        rw [y]
        have ref : ∀ {F' : Int32} {p' e' k' : Nat} {st' : Nat → Int32} {ns nt : Nat} {W : (OV → Prop) → OV → Prop}, d + 1 + 2 ≤ ns → d + 1 + 2 ≤ nt → LW a ns nt W → (∀ m (pm : OV → Prop), MS m0 L s 0 (sk B L p1) (e + 1 + wt μ) (k + 1) (u2.2.1 0) m → (∀ m', FX IR AR s m m' → MS m0 L s F' p' e' k' st' m' → pm m') → EN a m (fun m5 => PX9_sum_L4 pm ns m5)) → TR m0 L s p e k (u.2.1 0) F' p' e' k' st' IR AR (RV μ W) := by
          intro F' p' e' k' st' ns nt W h1 h2 lw g
          obtain ⟨nt, rfl⟩ : ∃ n', nt = n' + 1 := ⟨nt - 1, by omega⟩
          intro m w pm hpm
          unfold RV
          refine tr1 m w _ (fun m1 f1 w1 => tr2 m1 _ w1 (fun m2 f2 w2 => ?_))
          refine mp_blanks (MC_tx tx w2.1) hp1 (MS_rm w2) (fun m3 f3 r3 => ?_)
          have f3' : Fr [31, 32] [] [] [] m2 m3 := Fr_mono f3 (by decide) (by decide) (by decide) (by decide)
          have w3 := MS_mv w2 f3' r3 sp
          obtain ⟨P4, l4w, lw⟩ := lw
          refine lw _ _ ?_
          refine mp_L8 (MC_tx tx w3.1) sp r3 (fun _ => ?_) (fun z => absurd y z)
          exact l4w _ _ (g m3 pm w3 (fun m' f' w' => hpm m' (FX_trans f1 (FX_trans f2 (FX_trans (FX_31 f3' (by decide) (by decide)) f'))) w'))
        refine cs_en (m0 := m0) (s := s) oka hs (by omega) c2' (fun u3 c3 kp3 ty3 tr3 => ?_)
        have kp03 : KP e u u3 := KP_trans (by omega) kp02 kp3
        have ty03 : ∀ τ, τ.length + wt a + wt μ ≤ k → TyU (u3.2.1 0) e (e + 1 + wt μ + wt a) (fal (wt μ) (fal (wt a) τ)) (false :: τ) := by
          intro τ hτ
          exact TyU_trans (TyU_fr (ty02 (fal (wt a) τ) (by rw [fal_len]; omega)) (fun j hj => kp3.2 j hj)) (ty3 τ)
        unfold PX4_readSum_b66
        refine cp_next tx sp rd2 (fun r3 rd3 => ?_)
        rw [sk_sk hp1] at rd3 ⊢
        refine cp_add (br_nc (fun z => ?_) (fun z => ?_))
        · have lt := oA_lt z
          unfold PX4_readSum_b82
          refine cp_pass (n := 1) rd3 tx.1 (by omega) (fun r4 rd4 => ?_)
          rw [nI_1]
          rintro _ rfl
          have wz := wt_1 z
          refine ih (k + 1) (by omega) (sk B L p1 + 1) (e + 1 + wt μ + wt a) q1 r4 u3 (oA B L (sk B L p1)) 0 (i + 1) (n + 1) ⟨by omega, rd4, c3.2.2.1, Or.inl rfl, fun _ => c3.2.2.2.2 rfl⟩ (by omega) (by omega) (okA _ _ _) (Or.inl rfl) (by rw [wt_0]; omega) (fun F' p' e' k' q' r' u' c' o' tr' => ?_)
          refine hq F' p' e' k' q' r' u' c' (fun z' => ?_) (fun ns nt W h1 h2 lw => ?_)
          · obtain ⟨kp', g1, g2, g3, g4, gp, g5⟩ := o' z'
            rw [wt_0] at g3
            refine ⟨KP_trans (by omega) kp03 kp', by omega, g2, by omega, g4, by omega, fun τ hτ => ?_⟩
            have x1 := TyU_fr (ty03 τ hτ) (fun j hj => kp'.2 j hj)
            have x2 := g5 τ (by rw [wt_0]; omega)
            rw [wz, wt_0] at x2
            exact TyU_trans x1 x2
          · refine ref h1 h2 lw (fun m pm w hpm => tr3 m _ w (fun m5 f5 w5 => ?_))
            obtain ⟨ns, rfl⟩ : ∃ n', ns = n' + 1 := ⟨ns - 1, by omega⟩
            have r5 := MS_rm w5
            refine mp_L4 (MC_tx tx w5.1) sp r5 (fun y' => absurd y' z) (fun _ => ?_)
            unfold PX9_sum_b43
            rw [r5.2.1, nI_1]
            rintro _ rfl _ rfl
            have f6 : Fr [31, 32] [] [] [] m5 (si m5 31 (nI (sk B L p1 + 1))) := Fr_si (by decide) Fr_refl
            have w6 := MS_mv (p' := sk B L p1 + 1) w5 f6 ⟨r5.1, rfl, r5.2.2⟩ (by omega)
            have := tr' ns 62 (fun pm m3 => ∃ n5, PX9_term_L8 (fun v3 => PX9_entry v3 (opK (oA B L (sk B L p1))) 0 (fun v5 => PX9_sum_L4 pm ns v5)) n5 m3) (by omega) (by omega) ⟨fun pm v3 => PX9_entry v3 (opK (oA B L (sk B L p1))) 0 (fun v5 => PX9_sum_L4 pm ns v5), fun pm m4 h => by
              rw [EN_n z] at h
              exact h, fun pm m3 h => ⟨62, h⟩⟩ _ w6 pm (fun m' f' w' => hpm m' (FX_trans f5 (FX_trans (FX_31 f6 (by decide) (by decide)) f')) w')
            unfold RV at this
            rw [EN_z] at this
            unfold PX9_term
            exact this
        · refine hq 0 (sk B L p1) (e + 1 + wt μ + wt a) (k + 1) q1 r3 u3 ⟨sp, rd3, c3.2.2.1, Or.inl rfl, fun _ => c3.2.2.2.2 rfl⟩ (fun _ => ⟨kp03, by omega, k1, by omega, sk_sk hp1, by omega, ty03⟩) (fun ns nt W h1 h2 lw => ?_)
          refine ref h1 h2 lw (fun m pm w hpm => tr3 m _ w (fun m5 f5 w5 => ?_))
          obtain ⟨ns, rfl⟩ : ∃ n', ns = n' + 1 := ⟨ns - 1, by omega⟩
          exact mp_L4 (MC_tx tx w5.1) sp (MS_rm w5) (fun _ => hpm m5 f5 w5) (fun y' => absurd z y')
    · have fin : ∀ u2, Uok u2 → PX4_readSum_b39 t (PX4_readSum_L6 t post (n + 1)) post a (nI i) q1 r1 u2 := fun u2 ok2 => by
        refine cs_sum_fault (μ := μ) tx nz (CS_F (p := p1) (e := e + 1) (k := k + 1) nz c1.2.2.2.1 c1.1 c1.2.1 ok2) (fun p' r' u' c' => ?_)
        refine hq F1 p' (e + 1) (k + 1) q1 r' u' c' (fun z => absurd z nz) (fun ns nt W h1 h2 lw => ?_)
        obtain ⟨ns, rfl⟩ : ∃ n', ns = n' + 1 := ⟨ns - 1, by omega⟩
        obtain ⟨nt, rfl⟩ : ∃ n', nt = n' + 1 := ⟨nt - 1, by omega⟩
        intro m w pm hpm
        unfold RV
        refine tr1 m w _ (fun m1 f1 w1 => RV_fault lw tx nz w1 (fun m' f' w' => hpm m' (FX_trans f1 f') ?_))
        exact MS_F _ _ _ _ w'.1 nz w'.2.1 w'.2.2.1
      refine br_c (fun _ => fin u1 c1.2.2.1) (fun _ => cp_put_ok c1.2.2.1 (fun u2 ok2 _ => fin u2 ok2))
