/-! 981: the clauses of a rule, one by one -/
def RS (u : OV) (i e : Nat) : Prop := i ≤ 12 ∧ u.1 4 = nI i ∧ (∀ j, j ≤ i → u.2.1 2 j = nI (stA u j) ∧ stA u j ≤ e) ∧ (∀ j, j < i → u.2.1 3 j = nI (stB u j)) ∧ stA u i = e ∧ e ≤ 300 ∧ ∀ j, j < i → (stA u j ≤ stB u j ∧ stB u j ≤ stA u (j + 1) ∧ TyU (u.2.1 0) (stA u j) (stB u j) [] [false] ∧ (stB u j < stA u (j + 1) → TyU (u.2.1 0) (stB u j) (stA u (j + 1)) [] [true]))
def RSm (u : OV) (i s : Nat) (m : OV) : Prop := ∀ j, j < i → m.2.1 44 (12 * s + j) = nI (stA u j) ∧ m.2.1 45 (12 * s + j) = nI (stB u j) ∧ m.2.1 46 (12 * s + j) = nI (stA u (j + 1))
def enC (u : OV) (i e : Nat) : OV := sa (si u 4 (nI (i + 1))) 2 (upd (u.2.1 2) (i + 1) (nI e))
theorem cp_endC {u : OV} {i e : Nat} (h4 : u.1 4 = nI i) (h1 : u.1 1 = nI e) (hi : i < 12) {post : OV → Prop} (hq : post (enC u i e)) : PX3_endClause u post := by
  unfold PX3_endClause
  rw [h4, nI_1]
  refine br_f (fr_nle (b := 12) hi (by omega)) ?_
  rintro _ rfl _ rfl
  rw [show (si u 4 (nI (i + 1))).1 1 = nI e from h1, si_at]
  rintro _ rfl
  refine ⟨vp_in_q (by omega) (by omega), ?_⟩
  rw [nI_31 (show i + 1 < 1000 by omega)]
  rintro _ rfl
  exact hq
theorem cp_endC_ok {u : OV} (ok : Uok u) {post : OV → Prop} (hq : ∀ u', Uok u' → post u') : PX3_endClause u post := by
  obtain ⟨n, c, hn, hc, e1, e4, e2⟩ := id ok
  rcases Nat.lt_or_ge c 12 with h | h
  · refine cp_endC e4 e1 h (hq _ ⟨n, c + 1, hn, h, e1, rfl, ?_⟩)
    show upd (u.2.1 2) (c + 1) (nI n) 0 = 0
    rw [upd_ne _ _ (by omega)]
    exact e2
  · unfold PX3_endClause
    rw [e4]
    exact br_t (fr_le (a := 12) h (by omega)) (hq u ok)
theorem RS_step {u u' : OV} {L p e k i p' e' k' b : Nat} (rs : RS u i e) (c : ClO L p e k i p' e' k' b u u') : RS (enC u' i e') (i + 1) e' ∧ (∀ j, j ≤ i → stA (enC u' i e') j = stA u j) ∧ stA (enC u' i e') (i + 1) = e' ∧ (∀ j, j < i → stB (enC u' i e') j = stB u j) ∧ stB (enC u' i e') i = b := by
  obtain ⟨hi, h4, hA, hB, hE, hL, seg⟩ := rs
  obtain ⟨i12, c4, c2, c3, pe, eb, be, kk, k60, pp, ⟨G, g1, g2⟩, ty1, ty2⟩ := c
  have a1 : ∀ j, j ≤ i → (enC u' i e').2.1 2 j = u.2.1 2 j := fun j hj => by
    show upd (u'.2.1 2) (i + 1) (nI e') j = _
    rw [upd_ne _ _ (by omega), c2]
  have a2 : (enC u' i e').2.1 2 (i + 1) = nI e' := upd_eq _ _ _
  have b1 : ∀ j, j < i → (enC u' i e').2.1 3 j = u.2.1 3 j := fun j hj => by
    show u'.2.1 3 j = _
    rw [c3, upd_ne _ _ (by omega)]
  have b2 : (enC u' i e').2.1 3 i = nI b := by
    show u'.2.1 3 i = _
    rw [c3, upd_eq]
  have e3 : e' ≤ 300 := by omega
  have A1 : ∀ j, j ≤ i → stA (enC u' i e') j = stA u j := fun j hj => by unfold stA; rw [a1 j hj]
  have A2 : stA (enC u' i e') (i + 1) = e' := by unfold stA; rw [a2]; exact nI_clamp (by omega)
  have B1 : ∀ j, j < i → stB (enC u' i e') j = stB u j := fun j hj => by unfold stB; rw [b1 j hj]
  have B2 : stB (enC u' i e') i = b := by unfold stB; rw [b2]; exact nI_clamp (by omega)
  have st : ∀ j, j < e → (enC u' i e').2.1 0 j = u.2.1 0 j := fun j hj => pe j hj
  refine ⟨⟨by omega, rfl, fun j hj => ?_, fun j hj => ?_, A2, e3, fun j hj => ?_⟩, A1, A2, B1, B2⟩
  · rcases Nat.lt_or_ge i j with c | c
    · have : j = i + 1 := by omega
      subst this
      exact ⟨by rw [A2]; exact a2, by omega⟩
    · rw [A1 j c, a1 j c]
      exact ⟨(hA j c).1, by have := (hA j c).2; omega⟩
  · rcases Nat.lt_or_ge j i with c | c
    · rw [B1 j c, b1 j c]
      exact hB j c
    · have : j = i := by omega
      subst this
      rw [B2]
      exact b2
  · rcases Nat.lt_or_ge j i with c | c
    · rw [A1 j (by omega), A1 (j + 1) c, B1 j c]
      obtain ⟨s1, s2, s3, s4⟩ := seg j c
      have le := (hA (j + 1) c).2
      exact ⟨s1, s2, TyU_fr s3 (fun x hx => st x (by omega)), fun y => TyU_fr (s4 y) (fun x hx => st x (by omega))⟩
    · have : j = i := by omega
      subst this
      rw [A1 j (Nat.le_refl j), A2, B2, hE]
      exact ⟨eb, be, ty1, ty2⟩
theorem RS_ok {u : OV} {i e : Nat} (rs : RS u i e) : RuleOk u ∧ rlN u = i := by
  obtain ⟨hi, h4, hA, hB, hE, hL, seg⟩ := rs
  have n : rlN u = i := by unfold rlN; rw [h4]; exact nI_clamp (by omega)
  refine ⟨⟨by omega, by rw [n]; exact h4, fun j hj => (hA j (by omega)).1, fun j hj => hB j (by omega), fun j hj => ?_⟩, n⟩
  rw [n] at hj
  obtain ⟨s1, s2, s3, s4⟩ := seg j hj
  exact ⟨s1, s2, by have := (hA (j + 1) hj).2; omega, s3.2, fun y => (s4 y).2⟩
theorem FY_mono {s i i' : Nat} {m m' : OV} (f : FY s i m m') (h : i' ≤ i) : FY s i' m m' := ⟨f.1, f.2.1, fun j hj => f.2.2 j (by omega)⟩
theorem RSm_step {u u' m m' : OV} {L p e k i p' e' k' b s : Nat} (rs : RS u i e) (c : ClO L p e k i p' e' k' b u u') (r : RSm u i s m) (f : FY s i m m') (h : m'.2.1 44 (12 * s + i) = nI e ∧ m'.2.1 45 (12 * s + i) = nI b ∧ m'.2.1 46 (12 * s + i) = nI e') : RSm (enC u' i e') (i + 1) s m' := by
  obtain ⟨_, A1, A2, B1, B2⟩ := RS_step rs c
  intro j hj
  rcases Nat.lt_or_ge j i with c | c
  · rw [A1 j (by omega), A1 (j + 1) c, B1 j c]
    obtain ⟨f1, f2, f3⟩ := f.2.2 (12 * s + j) (by omega)
    obtain ⟨r1, r2, r3⟩ := r j c
    exact ⟨f1.trans r1, f2.trans r2, f3.trans r3⟩
  · have : j = i := by omega
    subst this
    rw [A1 j (Nat.le_refl j), A2, B2, rs.2.2.2.2.1]
    exact h
theorem mp_goesNo {t m0 m : OV} {B : Nat → Nat} {L s p e k : Nat} {F : Int32} {st : Nat → Int32} (tx : TX B L t m0) (nz : ¬ F = 0) (w : MS m0 L s F p e k st m) {post : Int32 → OV → Prop} (hq : ∀ m', Fr [31] [] [] [] m m' → post 0 m') : PX9_goesOn m post := by
  obtain ⟨mc, e32, ⟨q, hq1, e31⟩, _⟩ := id w
  unfold PX9_goesOn
  refine mp_blanks1 (MC_tx tx mc) hq1 ⟨mc.2.1, e31, e32⟩ (fun m1 p1 f1 hp1 r1 => ?_)
  refine br_nf (by rw [r1.2.2]; exact nz) ?_
  unfold PX9_goesOn_b40
  refine br_nf (by rw [r1.2.2]; exact nz) ?_
  unfold PX9_goesOn_b63
  rintro _ rfl _ rfl
  exact hq _ (Fr_si (by decide) f1)
/-- the reference from the i-th clause on -/
def TRN (m0 : OV) (L s i p e k : Nat) (u : OV) (F' : Int32) (u' : OV) : Prop := ∀ nf m (pm : Int32 → OV → Prop), 14 ≤ nf + i → MS m0 L s 0 p e k (u.2.1 0) m → m.1 36 = 0 → RSm u i s m → (∀ m' nf' n', FY s i m m' → MC m0 L s m' → m'.1 32 = F' → (F' = 0 → ∃ e', RS u' n' e' ∧ RSm u' n' s m' ∧ ∀ j, j < e' → stepR (u'.2.1 0 j) (m'.2.1 41 (300 * s + j)) (m'.2.1 42 (300 * s + j))) → PX9_rule_L27 pm (nf' + 1) (nI n') 0 m') → PX9_rule_L27 pm nf (nI i) 1 m
theorem FY_31 {s i : Nat} {m m' : OV} {I : List Nat} (f : Fr I [] [] [] m m') (h : ∀ k ∈ I, k ∈ IT) : FY s i m m' := FY_X (FX_TI f h (Or.inr rfl))
theorem cs_run {t m0 : OV} {B : Nat → Nat} {L s : Nat} (tx : TX B L t m0) (hs : s < 6) {post : Int32 → OV → OV → OV → Prop} : ∀ δ i, i + δ = 12 → ∀ p e k q r u G n, δ + 2 ≤ n → CS L 0 p e k q r u → RS u i e → k ≤ 60 → e ≤ 2 * k + 8 * G → 3 * G ≤ k → (∀ F' q' r' u', FOk F' → (F' = 0 → Uok u' ∧ ∃ n' e', RS u' n' e') → TRN m0 L s i p e k u F' u' → (¬ F' = 0 → Uok u') → post F' q' r' u') → PX4_read_L26 t post n 1 (nI i) q r u := by
  intro δ
  induction δ with
  | zero =>
    intro i hi p e k q r u G n hn c rs hk he hG hq
    obtain ⟨n, rfl⟩ : ∃ n', n = n' + 2 := ⟨n - 2, by omega⟩
    unfold PX4_read_L26
    refine br_f (by rw [show i = 12 by omega]; decide) (br_f (by decide) ?_)
    refine (cs_clause tx hs (by omega) rs.2.1 hk he hG c (fun F1 p1 e1 k1 b q1 r1 u1 c1 o1 t1 => ?_) : PXclause t (nI i) (fun q r u => PX4_read_b71 t (PX4_read_L26 t post (n + 1)) post (nI i) q r u) q r u)
    have nz : ¬ F1 = 0 := fun z => by have := (o1 z).1; omega
    unfold PX4_read_b71
    refine cp_endC_ok c1.2.2.1 (fun u2 ok2 => ?_)
    unfold PX2_hasNextClause
    refine br_nf (by rw [c1.2.1.2.2]; exact nz) ?_
    rintro _ rfl
    unfold PX4_read_L26
    rw [c1.2.1.2.2]
    have fin : post F1 q1 r1 u2 := by
      refine hq F1 q1 r1 u2 c1.2.2.2.1 (fun z => absurd z nz) (fun nf m pm hnf w d0 rm hpm => ?_) (fun _ => ok2)
      obtain ⟨nf, rfl⟩ : ∃ x, nf = x + 2 := ⟨nf - 2, by omega⟩
      unfold PX9_rule_L27
      refine br_f (by decide) (t1 m _ w d0 (fun m1 f1 w1 _ => ?_))
      rintro _ rfl
      refine mp_goesNo tx nz w1 (fun m2 f2 => ?_)
      rw [nI_1]
      exact hpm m2 nf (i + 1) (FY_trans f1 (FY_31 f2 (by decide))) (MC_fr w1.1 f2 (by decide) (by decide)) ((f2.1 32 (by decide)).trans w1.2.1) (fun z => absurd z nz)
    exact br_c (fun _ => fin) (fun _ => br_t rfl fin)
  | succ δ ih =>
    intro i hi p e k q r u G n hn c rs hk he hG hq
    have l4 := tx.1
    obtain ⟨n, rfl⟩ : ∃ n', n = n' + 2 := ⟨n - 2, by omega⟩
    unfold PX4_read_L26
    refine br_f (fun y => ?_) (br_f (by decide) ?_)
    · have := (nI_ltI (b := i) (a := 12) (by omega) (by omega)).mp y
      omega
    refine (cs_clause tx hs (by omega) rs.2.1 hk he hG c (fun F1 p1 e1 k1 b q1 r1 u1 c1 o1 t1 => ?_) : PXclause t (nI i) (fun q r u => PX4_read_b71 t (PX4_read_L26 t post (n + 1)) post (nI i) q r u) q r u)
    unfold PX4_read_b71
    by_cases nz : F1 = 0
    · subst nz
      have cl := o1 rfl
      obtain ⟨i12, c4, c2, c3, pe, eb, be, kk, k60, pp, ⟨G1, g1, g2⟩, ty1, ty2⟩ := id cl
      have hp1 := c1.1
      have sp : sk B L p1 ≤ L := (fw_ok (isBl B) hp1).2.1
      refine cp_endC (c4.trans rs.2.1) (c1.2.2.2.2 rfl).2 i12 ?_
      obtain ⟨rs2, A1, A2, B1, B2⟩ := RS_step rs cl
      have ok2 : Uok (enC u1 i e1) := by
        obtain ⟨n, c, hn, hc, h1, h4, h2⟩ := c1.2.2.1
        refine ⟨n, i + 1, hn, by omega, h1, rfl, ?_⟩
        show upd (u1.2.1 2) (i + 1) (nI e1) 0 = 0
        rw [upd_ne _ _ (by omega)]
        exact h2
      have stop : ∀ F' q' r', RD r' L (sk B L p1) F' → FOk F' → TRN m0 L s i p e k u F' (enC u1 i e1) → ∀ x6 : Int32, PX4_read_L26 t post (n + 1) 0 x6 q' r' (enC u1 i e1) := by
        intro F' q' r' rd' fo tr x6
        unfold PX4_read_L26
        rw [rd'.2.2]
        have fin : post F' q' r' (enC u1 i e1) := hq F' q' r' _ fo (fun _ => ⟨ok2, i + 1, e1, rs2⟩) tr (fun _ => ok2)
        exact br_c (fun _ => fin) (fun _ => br_t rfl fin)
      -- the reference up to the sign behind the clause
      have ref : ∀ {F' : Int32} {u' : OV}, (∀ nf m1 (pm : Int32 → OV → Prop), 13 ≤ nf + i → MS m0 L s 0 p1 e1 k1 (u1.2.1 0) m1 → m1.1 36 = 0 → RSm (enC u1 i e1) (i + 1) s m1 → (∀ m' nf' n', FY s (i + 1) m1 m' → MC m0 L s m' → m'.1 32 = F' → (F' = 0 → ∃ e', RS u' n' e' ∧ RSm u' n' s m' ∧ ∀ j, j < e' → stepR (u'.2.1 0 j) (m'.2.1 41 (300 * s + j)) (m'.2.1 42 (300 * s + j))) → PX9_rule_L27 pm (nf' + 1) (nI n') 0 m') → PX9_goesOn m1 (fun r10 v9 => PX9_rule_L27 pm nf (nI (i + 1)) r10 v9)) → TRN m0 L s i p e k u F' u' := by
        intro F' u' gg nf m pm hnf w d0 rm hpm
        obtain ⟨nf, rfl⟩ : ∃ x, nf = x + 1 := ⟨nf - 1, by omega⟩
        unfold PX9_rule_L27
        refine br_f (by decide) (t1 m _ w d0 (fun m1 f1 w1 h1 => ?_))
        rintro _ rfl
        rw [nI_1]
        obtain ⟨d1, h44, h45, h46⟩ := h1 rfl
        exact gg nf m1 pm (by omega) w1 d1 (RSm_step rs cl rm f1 ⟨h44, h45, h46⟩) (fun m' nf' n' f' => hpm m' nf' n' (FY_trans f1 (FY_mono f' (by omega))))
      have goes : ∀ m1, MS m0 L s 0 p1 e1 k1 (u1.2.1 0) m1 → TX B L t m1 ∧ Rst B L m1 m1 0 p1 := fun m1 w1 => ⟨MC_tx tx w1.1, Fr_refl, w1.2.1, fun _ => MS_rm w1, w1.1.2.1, p1, hp1, (w1.2.2.2 rfl).2.1⟩
      refine cp_hasNext tx hp1 c1.2.1 (fun z r2 rd2 => ?_) (fun z z2 r2 rd2 => ?_) (fun z z2 r2 rd2 => ?_)
      · -- the end
        rintro _ rfl
        refine stop 0 q1 r2 rd2 (Or.inl rfl) (ref (fun nf m1 pm hnf w1 d1 rm1 hpm => ?_)) _
        obtain ⟨tx1, rst⟩ := goes m1 w1
        obtain ⟨nf, rfl⟩ : ∃ x, nf = x + 1 := ⟨nf - 1, by omega⟩
        refine mp_goesOn tx1 hp1 rst (fun _ m2 f2 => ?_) (fun y => absurd y z) (fun y => absurd y z)
        refine hpm m2 nf (i + 1) (FY_31 f2 (by decide)) (MC_fr w1.1 f2 (by decide) (by decide)) ((f2.1 32 (by decide)).trans w1.2.1) (fun _ => ⟨e1, rs2, ?_, ?_⟩)
        · intro j hj
          rw [f2.2.1 44 (by decide) (by decide), f2.2.1 45 (by decide) (by decide), f2.2.1 46 (by decide) (by decide)]
          exact rm1 j hj
        · intro j hj
          rw [f2.2.1 41 (by decide) (by decide), f2.2.1 42 (by decide) (by decide)]
          exact (w1.2.2.2 rfl).2.2.2.2 j hj
      · -- another clause
        rintro _ rfl
        rw [nI_1]
        refine ih (i + 1) (by omega) (sk B L p1 + 1) e1 k1 q1 r2 (enC u1 i e1) G1 (n + 1) (by omega) ⟨z, rd2, ok2, Or.inl rfl, fun _ => c1.2.2.2.2 rfl⟩ rs2 k60 g1 g2 (fun F' q' r' u' fo o' tr' nok => ?_)
        refine hq F' q' r' u' fo o' (ref (fun nf m1 pm hnf w1 d1 rm1 hpm => ?_)) nok
        obtain ⟨tx1, rst⟩ := goes m1 w1
        refine mp_goesOn tx1 hp1 rst (fun y => absurd z y) (fun _ _ m2 f2 r2 => ?_) (fun _ y => absurd z2 y)
        have f2' : Fr [31, 32] [] [] [] m1 m2 := Fr_mono f2 (by decide) (by decide) (by decide) (by decide)
        have w2 := MS_mv w1 f2' r2 z
        refine tr' nf m2 pm (by omega) w2 ((f2.1 36 (by decide)).trans d1) ?_ (fun m' nf' n' f' => hpm m' nf' n' (FY_trans (FY_31 f2 (by decide)) f'))
        intro j hj
        rw [f2.2.1 44 (by decide) (by decide), f2.2.1 45 (by decide) (by decide), f2.2.1 46 (by decide) (by decide)]
        exact rm1 j hj
      · -- something else
        rintro _ rfl
        have fnz : ¬ flt (sk B L p1) 0 = 0 := flt_ne (k := 0) (by omega) (by omega)
        refine stop _ q1 r2 rd2 (FOk_f0 (by omega)) (ref (fun nf m1 pm hnf w1 d1 rm1 hpm => ?_)) _
        obtain ⟨tx1, rst⟩ := goes m1 w1
        obtain ⟨nf, rfl⟩ : ∃ x, nf = x + 1 := ⟨nf - 1, by omega⟩
        refine mp_goesOn tx1 hp1 rst (fun y => absurd z y) (fun _ y => absurd y z2) (fun _ _ m2 f2 e2 => ?_)
        exact hpm m2 nf (i + 1) (FY_31 f2 (by decide)) (MC_fr w1.1 f2 (by decide) (by decide)) e2 (fun y => absurd y fnz)
    · refine cp_endC_ok c1.2.2.1 (fun u2 ok2 => ?_)
      unfold PX2_hasNextClause
      refine br_nf (by rw [c1.2.1.2.2]; exact nz) ?_
      rintro _ rfl
      unfold PX4_read_L26
      rw [c1.2.1.2.2]
      have fin : post F1 q1 r1 u2 := by
        refine hq F1 q1 r1 u2 c1.2.2.2.1 (fun z => absurd z nz) (fun nf m pm hnf w d0 rm hpm => ?_) (fun _ => ok2)
        obtain ⟨nf, rfl⟩ : ∃ x, nf = x + 2 := ⟨nf - 2, by omega⟩
        unfold PX9_rule_L27
        refine br_f (by decide) (t1 m _ w d0 (fun m1 f1 w1 _ => ?_))
        rintro _ rfl
        refine mp_goesNo tx nz w1 (fun m2 f2 => ?_)
        rw [nI_1]
        exact hpm m2 nf (i + 1) (FY_trans f1 (FY_31 f2 (by decide))) (MC_fr w1.1 f2 (by decide) (by decide)) ((f2.1 32 (by decide)).trans w1.2.1) (fun z => absurd z nz)
      exact br_c (fun _ => fin) (fun _ => br_t rfl fin)
