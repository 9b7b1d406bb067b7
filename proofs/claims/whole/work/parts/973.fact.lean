/-! 973: a fact made of a sign -/
def FactO (B : Nat → Nat) (L p e k p' e' k' : Nat) (u u' : OV) : Prop := KP e u u' ∧ k + 3 ≤ k' ∧ k' ≤ 60 ∧ e' + 3 = e + 2 * (k' - k) ∧ sk B L p' = p' ∧ p ≤ p' ∧ ∀ τ, τ.length ≤ k → TyU (u'.2.1 0) e e' τ (true :: τ)
/-- the class's fact made of a sign -/
def PXfact (t : OV) (post : OV → OV → OV → Prop) (q r u : OV) : Prop := PX4_readSum q r u t (fun v_q3 v_r4 v_u5 => (PX4_readSign v_q3 v_r4 v_u5 t (fun r9 v_q7 v_r8 => (PX4_readSum v_q7 v_r8 v_u5 t (fun v_q11 v_r12 v_u13 => (PX3_put v_u13 r9 (fun v_u15 => post v_q11 v_r12 v_u15)))))))
theorem kC_op {B : Nat → Nat} {L p : Nat} (nz : ¬ oC B L p = 0) : (kC (oC B L p), oC B L p) ∈ opT ∧ ∀ τ, ty1 (oC B L p) (false :: false :: τ) = some (true :: τ) := by
  rcases oC_cs B L p with ⟨_, _, _, e⟩ | ⟨_, _, e⟩ | ⟨_, _, e⟩ | ⟨_, e⟩ | ⟨_, _, e⟩ | ⟨_, _, e⟩
  · exact absurd e nz
  all_goals (rw [e]; exact ⟨by decide, fun τ => rfl⟩)
/-- behind a fault -/
theorem cs_sign_no {t m0 q r u : OV} {B : Nat → Nat} {L p : Nat} {F : Int32} (tx : TX B L t m0) (nz : ¬ F = 0) (hp : p ≤ L) (rd : RD r L p F) (ok : Uok u) {post : OV → OV → OV → Prop} (hq : ∀ p' q' r' u', p' ≤ L → RD r' L p' F → Uok u' → post q' r' u') {x : Int32} : PX4_readSign_b37 u t (fun r9 v_q7 v_r8 => (PX4_readSum v_q7 v_r8 u t (fun v_q11 v_r12 v_u13 => (PX3_put v_u13 r9 (fun v_u15 => post v_q11 v_r12 v_u15))))) x q r := by
  unfold PX4_readSign_b37
  refine cp_countAt_no nz rd (fun q' r' rd' => ?_)
  have fin : ∀ n, n ≤ 2 → PX4_readSign_b69 u t (fun r9 v_q7 v_r8 => (PX4_readSum v_q7 v_r8 u t (fun v_q11 v_r12 v_u13 => (PX3_put v_u13 r9 (fun v_u15 => post v_q11 v_r12 v_u15))))) (nI n) x q' r' := by
    intro n hn
    unfold PX4_readSign_b69
    refine cp_passm rd' tx.1 hp hn (fun r2 p2 hp2 rd2 => cs_sum_no nz rd2 (cp_put_ok ok (fun u' ok' _ => hq p2 q' r2 u' hp2 rd2 ok')))
  exact br_c (fun _ => fin 2 (by omega)) (fun _ => br_nc (fun _ => fin 1 (by omega)) (fun _ => fin 2 (by omega)))
theorem mp_cmp {t m : OV} {B : Nat → Nat} {L p : Nat} {f : Int32} (tx : TX B L t m) (hp : p ≤ L + 1) (h : RM m L p f) {pm : OV → Prop} (h0 : oC B L p = 0 → PX9_fails m 0 (m.1 31) (fun v8 => pm v8)) (h1 : ¬ oC B L p = 0 → PX9_compared_b37 pm (chr B L p) m) : PX9_sign m (fun r3 => ((r3 = ((60 : Int32)) → PX9_compared_b37 pm r3 m) ∧ (¬ r3 = ((60 : Int32)) → ((r3 = ((61 : Int32)) → PX9_compared_b37 pm r3 m) ∧ (¬ r3 = ((61 : Int32)) → ((r3 = ((62 : Int32)) → PX9_compared_b37 pm r3 m) ∧ (¬ r3 = ((62 : Int32)) → (PX9_fails m ((0 : Int32)) (m.1 31) (fun v_m8 => pm v_m8))))))))) := by
  refine mp_sign tx h hp ?_
  rcases oC_cs B L p with ⟨a, b, c, e⟩ | ⟨a, _, e⟩ | ⟨a, _, e⟩ | ⟨a, e⟩ | ⟨a, _, e⟩ | ⟨a, _, e⟩
  · exact br_f a (br_f b (br_f c (h0 e)))
  · exact br_t a (h1 (by rw [e]; decide))
  · exact br_t a (h1 (by rw [e]; decide))
  · exact br_f (by rw [a]; decide) (br_t a (h1 (by rw [e]; decide)))
  · exact br_f (by rw [a]; decide) (br_f (by rw [a]; decide) (br_t a (h1 (by rw [e]; decide))))
  · exact br_f (by rw [a]; decide) (br_f (by rw [a]; decide) (br_t a (h1 (by rw [e]; decide))))
theorem FX_IR {m m' : OV} {s : Nat} {I : List Nat} (f : Fr I [] [] [] m m') (h : ∀ k ∈ I, k ∈ IR) : FX IR AR s m m' := FX_mono (FX_fr f (by decide) (by decide)) h (fun k hk => absurd hk (List.not_mem_nil))
/-- the reference behind a fault at the sign -/
theorem mp_cmp_no {t m0 m : OV} {B : Nat → Nat} {L s p e k : Nat} {F : Int32} {st : Nat → Int32} (tx : TX B L t m0) (nz : ¬ F = 0) (w : MS m0 L s F p e k st m) {pm : OV → Prop} (hq : ∀ m', FX IR AR s m m' → MS m0 L s F p e k st m' → pm m') : PX9_sign m (fun r3 => ((r3 = ((60 : Int32)) → PX9_compared_b37 pm r3 m) ∧ (¬ r3 = ((60 : Int32)) → ((r3 = ((61 : Int32)) → PX9_compared_b37 pm r3 m) ∧ (¬ r3 = ((61 : Int32)) → ((r3 = ((62 : Int32)) → PX9_compared_b37 pm r3 m) ∧ (¬ r3 = ((62 : Int32)) → (PX9_fails m ((0 : Int32)) (m.1 31) (fun v_m8 => pm v_m8))))))))) := by
  obtain ⟨mc, e32, ⟨q, hq1, e31⟩, _⟩ := id w
  have txm := MC_tx tx mc
  have rm : RM m L q F := ⟨mc.2.1, e31, e32⟩
  have fin : ∀ {m' : OV}, Fr [31, 32, 37] [] [] [] m m' → m'.1 32 = F → ∀ q', q' ≤ L + 1 → m'.1 31 = nI q' → pm m' := fun f e q' h1 h2 => hq _ (FX_IR f (by decide)) (MS_F _ _ _ _ (MC_fr mc f (by decide) (by decide)) nz e ⟨q', h1, h2⟩)
  refine mp_cmp txm hq1 rm (fun _ => ?_) (fun y => ?_)
  · rw [e31]
    refine mp_fails (k := 0) rm (fun m' f' r' => ?_)
    rw [fst_n nz] at r'
    exact fin (Fr_mono f' (by decide) (by decide) (by decide) (by decide)) r'.2.2 q hq1 r'.2.1
  · have lt := oC_lt y
    unfold PX9_compared_b37
    refine mp_counted_no nz e32 (fun m1 f1 e1 => ?_)
    have g1 : Fr [31, 32, 37] [] [] [] m m1 := Fr_mono f1 (by decide) (by decide) (by decide) (by decide)
    have rm1 : RM m1 L q F := ⟨(f1.1 30 (by decide)).trans rm.1, (f1.1 31 (by decide)).trans e31, e1⟩
    refine mp_cmp_tail (TX_fr f1 (by decide) txm) rm1 y (fun m2 pm2 f2 r2 hk => ?_)
    have g2 : Fr [31, 32, 37] [] [] [] m m2 := Fr_trans g1 (Fr_mono f2 (by decide) (by decide) (by decide) (by decide))
    refine mp_sum_no (TX_fr g2 (by decide) txm) nz (nC_le y) r2 ((g2.1 39 (by decide)).trans mc.2.2.2) (fun m3 p3 f3 hp3 r3 => hk m3 ?_)
    exact mp_entry_no (by rw [r3.2.2]; exact nz) (fin (Fr_trans g2 f3) r3.2.2 p3 (by omega) r3.2.1)
theorem cs_fact {t m0 q r u : OV} {B : Nat → Nat} {L s p e k : Nat} (tx : TX B L t m0) (hs : s < 6) (hk : k ≤ 60) (hb : e ≤ 2 * k + 162) (c : CS L 0 p e k q r u) {post : OV → OV → OV → Prop} (hq : ∀ F' p' e' k' q' r' u', CS L F' p' e' k' q' r' u' → (F' = 0 → FactO B L p e k p' e' k' u u') → TR m0 L s p e k (u.2.1 0) F' p' e' k' (u'.2.1 0) IR AR PX9_compared → post q' r' u') : PXfact t post q r u := by
  have l4 := tx.1
  unfold PXfact
  refine cs_sum tx hs hk hb c (fun F1 p1 e1 k1 q1 r1 u1 c1 o1 tr1 => ?_)
  obtain ⟨hp1, rd1, ok1, foc1, g1⟩ := id c1
  have sp1 : sk B L p1 ≤ L := (fw_ok (isBl B) hp1).2.1
  unfold PX4_readSign
  refine cp_next tx hp1 rd1 (fun r2 rd2 => cp_behind tx sp1 rd2 (cp_comp ?_))
  by_cases nz : F1 = 0
  · subst nz
    obtain ⟨kp1, a1, a2, a3, a4, ap, ty1'⟩ := o1 rfl
    obtain ⟨qk1, ue1⟩ := g1 rfl
    rw [a4] at rd2 sp1 ⊢
    rw [rd2.2.1]
    refine br_nc (fun y => ?_) (fun y => ?_)
    · -- a sign
      have lt := oC_lt y
      have nle := nC_le y
      unfold PX4_readSign_b37
      rw [rd2.2.1]
      refine cp_countAt (by omega) qk1 rd2 (fun q3 r3 qk3 rd3 => ?_)
      rw [fst_z] at rd3
      -- the reference up to its second sum
      have ref : ∀ {F' : Int32} {p' e' k' : Nat} {st' : Nat → Int32}, (∀ m pm pm', MS m0 L s (cF k1 p1) (p1 + nC B L p1) e1 (k1 + 1) (u1.2.1 0) m → RM m L (p1 + nC B L p1) (cF k1 p1) → (∀ m3, PX9_entry m3 (kC (oC B L p1)) 0 pm → pm' m3) → (∀ m', FX IR AR s m m' → MS m0 L s F' p' e' k' st' m' → pm m') → PX9_sum m pm') → TR m0 L s p e k (u.2.1 0) F' p' e' k' st' IR AR PX9_compared := by
        intro F' p' e' k' st' g m w pm hpm
        unfold PX9_compared
        refine tr1 m w _ (fun m1 f1 w1 => ?_)
        have rm1 := MS_rm w1
        refine mp_cmp (MC_tx tx w1.1) (by omega) rm1 (fun z => absurd z y) (fun _ => ?_)
        unfold PX9_compared_b37
        rw [rm1.2.1]
        refine mp_counted l4 (by omega) (by omega) w1 (fun m2 f2 w2 => ?_)
        have e31 : m2.1 31 = nI p1 := (f2.1 31 (by decide)).trans rm1.2.1
        refine mp_cmp_tail (MC_tx tx w2.1) ⟨w2.1.2.1, e31, w2.2.1⟩ y (fun m3 pm3 f3 r3 hk3 => ?_)
        have fx : FX IR AR s m m3 := FX_trans f1 (FX_trans (FX_IR f2 (by decide)) (FX_IR f3 (by decide)))
        refine g m3 pm pm3 ?_ r3 hk3 (fun m' f' w' => hpm m' (FX_trans fx f') w')
        by_cases z : cF k1 p1 = 0
        · rw [z] at w2 ⊢
          have r3 := r3
          rw [z] at r3
          exact MS_mv w2 (Fr_mono f3 (by decide) (by decide) (by decide) (by decide)) r3 nle
        · exact MS_F _ _ _ _ (MC_fr w2.1 f3 (by decide) (by decide)) z r3.2.2 ⟨_, by omega, r3.2.1⟩
      have pass : ∀ {X : OV → Prop}, (∀ r4, RD r4 L (p1 + nC B L p1) (cF k1 p1) → X r4) → ((oC B L p1 = -21 → PX2_pass r3 t 2 X) ∧ (¬ oC B L p1 = -21 → ((¬ oC B L p1 = -23 → PX2_pass r3 t 1 X) ∧ (oC B L p1 = -23 → PX2_pass r3 t 2 X)))) := by
        intro X hX
        unfold nC at hX nle
        refine br_c (fun a => ?_) (fun a => br_nc (fun b => ?_) (fun b => ?_))
        · rw [if_pos a] at hX nle
          exact cp_pass (n := 2) rd3 l4 nle hX
        · rw [if_neg a, if_neg b] at hX nle
          exact cp_pass (n := 1) rd3 l4 nle hX
        · rw [if_neg a, if_pos b] at hX nle
          exact cp_pass (n := 2) rd3 l4 nle hX
      refine pass (fun r4 rd4 => ?_)
      by_cases z : cF k1 p1 = 0
      · rw [z] at rd4
        have k60 := cF_0 (by omega) (by omega) z
        refine cs_sum tx hs (k := k1 + 1) (by omega) (e := e1) (by omega) ⟨nle, rd4, ok1, Or.inl rfl, fun _ => ⟨qk3, ue1⟩⟩ (fun F5 p5 e5 k5 q5 r5 u5 c5 o5 tr5 => ?_)
        obtain ⟨hp5, rd5, ok5, foc5, g5⟩ := id c5
        by_cases n5 : F5 = 0
        · subst n5
          obtain ⟨kp5, b1, b2, b3, b4, bp, ty5⟩ := o5 rfl
          refine cp_put (g5 rfl).2 (by omega) ?_
          refine hq 0 p5 (e5 + 1) k5 q5 r5 _ ⟨hp5, rd5, Uok_cpU ok5 (by omega), Or.inl rfl, fun _ => ⟨(g5 rfl).1, rfl⟩⟩ (fun _ => ⟨?_, by omega, b2, by omega, b4, by omega, fun τ hτ => ?_⟩) (ref (fun m pm pm' w rw' hk3 hpm => ?_))
          · exact KP_trans (by omega) kp1 (KP_trans (by omega) kp5 ⟨UF_cpU _ _ _, PE_cpU _ _ _⟩)
          · have x1 := TyU_fr (TyU_fr (ty1' τ hτ) (fun j hj => kp5.2 j hj)) (fun j hj => (PE_cpU u5 e5 (oC B L p1)) j (by omega))
            have x2 := TyU_fr (ty5 (false :: τ) (by show τ.length + 1 ≤ k1 + 1; omega)) (fun j hj => (PE_cpU u5 e5 (oC B L p1)) j hj)
            refine TyU_trans x1 (TyU_trans x2 (TyU_one ?_))
            rw [cpU_at]
            exact (kC_op y).2 τ
          · rw [z] at w
            refine tr5 m w pm' (fun m' f' w' => hk3 m' (mp_entry_c hs (by omega) w' (Or.inr (Or.inr (Or.inr (kC_op y).1))) (fun m6 f6 w6 => hpm m6 (FX_trans f' f6) w6)))
        · refine cp_put_ok ok5 (fun u6 ok6 _ => ?_)
          refine hq F5 p5 e5 k5 q5 r5 u6 (CS_F n5 foc5 hp5 rd5 ok6) (fun y => absurd y n5) (ref (fun m pm pm' w rw' hk3 hpm => ?_))
          rw [z] at w
          refine tr5 m w pm' (fun m' f' w' => hk3 m' (mp_entry_no (by rw [w'.2.1]; exact n5) (hpm m' f' ?_)))
          exact MS_F _ _ _ _ w'.1 n5 w'.2.1 w'.2.2.1
      · refine cs_sum_no z rd4 (cp_put_ok ok1 (fun u6 ok6 _ => ?_))
        refine hq (cF k1 p1) (p1 + nC B L p1) e1 (k1 + 1) q3 r4 u6 (CS_F z (FOk_cF (by omega)) nle rd4 ok6) (fun y => absurd y z) (ref (fun m pm pm' w rw' hk3 hpm => ?_))
        refine mp_sum_no (MC_tx tx w.1) z nle rw' w.1.2.2.2 (fun m3 p3 f3 hp3 r3' => hk3 m3 ?_)
        refine mp_entry_no (by rw [r3'.2.2]; exact z) (hpm m3 (FX_IR f3 (by decide)) ?_)
        exact MS_F _ _ _ _ (MC_fr w.1 f3 (by decide) (by decide)) z r3'.2.2 ⟨p3, by omega, r3'.2.1⟩
    · -- no sign
      have nz : ¬ flt p1 0 = 0 := flt_ne (k := 0) (by omega) (by omega)
      refine cp_failAt (k := 0) rd2 (fun r3 rd3 => ?_)
      rw [fst_z] at rd3
      refine cs_sign_no tx nz hp1 rd3 ok1 (fun p' q' r' u' hp' rd' ok' => ?_)
      refine hq (flt p1 0) p' e k q' r' u' (CS_F nz (FOk_f0 (by omega)) hp' rd' ok') (fun z => absurd z nz) (fun m w pm hpm => ?_)
      unfold PX9_compared
      refine tr1 m w _ (fun m1 f1 w1 => ?_)
      have rm1 := MS_rm w1
      refine mp_cmp (MC_tx tx w1.1) (by omega) rm1 (fun _ => ?_) (fun z => absurd y z)
      rw [rm1.2.1]
      refine mp_fails (k := 0) rm1 (fun m2 f2 r2 => ?_)
      rw [fst_z] at r2
      exact hpm m2 (FX_trans f1 (FX_IR f2 (by decide))) (MS_F _ _ _ _ (MC_fr w1.1 f2 (by decide) (by decide)) nz r2.2.2 ⟨_, by omega, r2.2.1⟩)
  · have fin : ∀ {x : Int32} {q2 r2 : OV} {p2 : Nat}, p2 ≤ L → RD r2 L p2 F1 → PX4_readSign_b37 u1 t (fun r9 v_q7 v_r8 => (PX4_readSum v_q7 v_r8 u1 t (fun v_q11 v_r12 v_u13 => (PX3_put v_u13 r9 (fun v_u15 => post v_q11 v_r12 v_u15))))) x q2 r2 := by
      intro x q2 r2 p2 hp2 rd2
      refine cs_sign_no tx nz hp2 rd2 ok1 (fun p' q' r' u' hp' rd' ok' => ?_)
      refine hq F1 p' e k q' r' u' (CS_F nz foc1 hp' rd' ok') (fun z => absurd z nz) (fun m w pm hpm => ?_)
      unfold PX9_compared
      refine tr1 m w _ (fun m1 f1 w1 => mp_cmp_no tx nz w1 (fun m' f' w' => hpm m' (FX_trans f1 f') ?_))
      exact MS_F _ _ _ _ w'.1 nz w'.2.1 w'.2.2.1
    refine br_nc (fun _ => fin sp1 rd2) (fun _ => ?_)
    rw [rd2.2.1]
    refine cp_failAt (k := 0) rd2 (fun r3 rd3 => ?_)
    rw [fst_n nz] at rd3
    exact fin sp1 rd3
