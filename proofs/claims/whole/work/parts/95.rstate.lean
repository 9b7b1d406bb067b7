/-! 95: reading a rule: the states of both sides -/
def cpU (u : OV) (e : Nat) (x : Int32) : OV := si (sa u 0 (upd (u.2.1 0) e x)) 1 (nI (e + 1))
/-- what reading may leave of a rule -/
def Uok (u : OV) : Prop := ∃ n c, n ≤ 400 ∧ c ≤ 12 ∧ u.1 1 = nI n ∧ u.1 4 = nI c ∧ u.2.1 2 0 = 0
def UF (u u' : OV) : Prop := u'.1 4 = u.1 4 ∧ u'.2.1 2 = u.2.1 2 ∧ u'.2.1 3 = u.2.1 3
theorem UF_refl (u : OV) : UF u u := ⟨rfl, rfl, rfl⟩
theorem UF_trans {a b c : OV} (x : UF a b) (y : UF b c) : UF a c := ⟨y.1.trans x.1, y.2.1.trans x.2.1, y.2.2.trans x.2.2⟩
def PE (e : Nat) (u u' : OV) : Prop := ∀ j, j < e → u'.2.1 0 j = u.2.1 0 j
theorem PE_refl (e : Nat) (u : OV) : PE e u u := fun _ _ => rfl
theorem PE_trans {e e' : Nat} {a b c : OV} (h : e ≤ e') (x : PE e a b) (y : PE e' b c) : PE e a c := fun j hj => (y j (by omega)).trans (x j hj)
theorem UF_cpU (u : OV) (e : Nat) (x : Int32) : UF u (cpU u e x) := ⟨rfl, rfl, rfl⟩
theorem PE_cpU (u : OV) (e : Nat) (x : Int32) : PE e u (cpU u e x) := fun j hj => upd_ne _ _ (by omega)
theorem cpU_at (u : OV) (e : Nat) (x : Int32) : (cpU u e x).2.1 0 e = x := upd_eq _ _ _
theorem cpU_1 (u : OV) (e : Nat) (x : Int32) : (cpU u e x).1 1 = nI (e + 1) := rfl
theorem Uok_cpU {u : OV} {e : Nat} {x : Int32} (ok : Uok u) (he : e < 400) : Uok (cpU u e x) := by
  obtain ⟨n, c, hn, hc, e1, e4, e2⟩ := ok
  exact ⟨e + 1, c, by omega, hc, rfl, e4, e2⟩
theorem cp_put {u : OV} {e : Nat} {x : Int32} (h : u.1 1 = nI e) (he : e < 400) {post : OV → Prop} (hq : post (cpU u e x)) : PX3_put u x post := by
  unfold PX3_put
  rw [h, nI_31 (show e < 1000 by omega)]
  refine br_f (fr_nle (b := 400) he (by omega)) ⟨vp_in_q he (by omega), ?_⟩
  rintro _ rfl
  rw [show (sa u 0 (upd (u.2.1 0) e x)).1 1 = nI e from h, nI_1]
  rintro _ rfl _ rfl
  exact hq
theorem cp_put_ok {u : OV} {x : Int32} (ok : Uok u) {post : OV → Prop} (hq : ∀ u', Uok u' → UF u u' → post u') : PX3_put u x post := by
  obtain ⟨n, c, hn, hc, e1, e4, e2⟩ := id ok
  rcases Nat.lt_or_ge n 400 with h | h
  · exact cp_put e1 h (hq _ (Uok_cpU ok h) (UF_cpU _ _ _))
  · unfold PX3_put
    rw [e1]
    exact br_t (fr_le (a := 400) h (by omega)) (hq u ok (UF_refl u))
/-- frames with the rows of earlier rules -/
def FX (I A : List Nat) (s : Nat) (m m' : OV) : Prop := Fr I A [] [] m m' ∧ ∀ j, j < 300 * s → m'.2.1 41 j = m.2.1 41 j ∧ m'.2.1 42 j = m.2.1 42 j
theorem FX_trans {I A : List Nat} {s : Nat} {a b c : OV} (x : FX I A s a b) (y : FX I A s b c) : FX I A s a c := ⟨Fr_trans x.1 y.1, fun j hj => ⟨(y.2 j hj).1.trans (x.2 j hj).1, (y.2 j hj).2.trans (x.2 j hj).2⟩⟩
theorem FX_mono {I A I' A' : List Nat} {s : Nat} {a b : OV} (x : FX I A s a b) (hI : ∀ k, k ∈ I → k ∈ I') (hA : ∀ k, k ∈ A → k ∈ A') : FX I' A' s a b := ⟨Fr_mono x.1 hI hA (fun _ h => h) (fun _ h => h), x.2⟩
theorem FX_fr {I A : List Nat} {s : Nat} {a b : OV} (x : Fr I A [] [] a b) (h1 : 41 ∉ A) (h2 : 42 ∉ A) : FX I A s a b := ⟨x, fun j _ => ⟨by rw [x.2.1 41 h1 (by decide)], by rw [x.2.1 42 h2 (by decide)]⟩⟩
/-- what stays in the reference while a rule is read -/
def MC (m0 : OV) (L s : Nat) (m : OV) : Prop := m.2.1 40 = m0.2.1 40 ∧ m.1 30 = nI L ∧ m.1 33 = nI s ∧ m.1 39 = 14
def MS (m0 : OV) (L s : Nat) (F : Int32) (p e k : Nat) (st : Nat → Int32) (m : OV) : Prop := MC m0 L s m ∧ m.1 32 = F ∧ (∃ q, q ≤ L + 1 ∧ m.1 31 = nI q) ∧ (F = 0 → p ≤ L ∧ m.1 31 = nI p ∧ m.1 35 = nI e ∧ m.1 37 = nI k ∧ ∀ j, j < e → stepR (st j) (m.2.1 41 (300 * s + j)) (m.2.1 42 (300 * s + j)))
theorem MC_fr {m0 m m' : OV} {L s : Nat} {I A : List Nat} (w : MC m0 L s m) (f : Fr I A [] [] m m') (hI : ∀ k ∈ [30, 33, 39], k ∉ I) (hA : 40 ∉ A) : MC m0 L s m' := ⟨(f.2.1 40 hA (by decide)).trans w.1, (f.1 30 (hI 30 (by decide))).trans w.2.1, (f.1 33 (hI 33 (by decide))).trans w.2.2.1, (f.1 39 (hI 39 (by decide))).trans w.2.2.2⟩
theorem MC_tx {m0 m t : OV} {B : Nat → Nat} {L s : Nat} (tx : TX B L t m0) (w : MC m0 L s m) : TX B L t m := ⟨tx.1, fun i hi => by rw [w.1]; exact tx.2 i hi⟩
theorem MS_rm {m0 m : OV} {L s p e k : Nat} {st : Nat → Int32} (w : MS m0 L s 0 p e k st m) : RM m L p 0 := ⟨w.1.2.1, (w.2.2.2 rfl).2.1, w.2.1⟩
theorem MS_st {m0 m : OV} {L s p e k : Nat} {F : Int32} {st st' : Nat → Int32} (w : MS m0 L s F p e k st m) (h : ∀ j, j < e → st' j = st j) : MS m0 L s F p e k st' m := ⟨w.1, w.2.1, w.2.2.1, fun z => by
  obtain ⟨a, b, c, d, g⟩ := w.2.2.2 z
  exact ⟨a, b, c, d, fun j hj => by rw [h j hj]; exact g j hj⟩⟩
theorem MS_F {m0 m : OV} {L s : Nat} {F : Int32} (p e k : Nat) (st : Nat → Int32) (w : MC m0 L s m) (nz : ¬ F = 0) (h : m.1 32 = F) (h31 : ∃ q, q ≤ L + 1 ∧ m.1 31 = nI q) : MS m0 L s F p e k st m := ⟨w, h, h31, fun z => absurd z nz⟩
theorem mp_entry_no {m : OV} {K N : Int32} (h : ¬ m.1 32 = 0) {post : OV → Prop} (hq : post m) : PX9_entry m K N post := by
  unfold PX9_entry
  exact br_nf h hq
theorem mp_entry {m0 m : OV} {L s p e k : Nat} {st : Nat → Int32} {x K N : Int32} (hs : s < 6) (he : e < 300) (w : MS m0 L s 0 p e k st m) (sr : stepR x K N) {post : OV → Prop} (hq : ∀ m', FX [35] [41, 42] s m m' → MS m0 L s 0 p (e + 1) k (upd st e x) m' → post m') : PX9_entry m K N post := by
  obtain ⟨mc, e32, _, g⟩ := id w
  obtain ⟨hp, e31, e35, e37, rel⟩ := g rfl
  have e33 := mc.2.2.1
  have ix : ((300 : Int32) * nI s + nI e).toNatClampNeg = 300 * s + e := by
    rw [show (300 : Int32) * nI s + nI e = nI (300 * s + e) from nI_lin 300 s e]
    exact nI_clamp (by omega)
  have iv : vp_in ((300 : Int32) * nI s + nI e) 1800 := by
    rw [show (300 : Int32) * nI s + nI e = nI (300 * s + e) from nI_lin 300 s e]
    exact vp_in_q (by omega) (by omega)
  unfold PX9_entry
  refine br_nt e32 ?_
  rw [e33, e35]
  refine ⟨iv, ?_⟩
  rw [ix]
  rintro _ rfl
  rw [show (sa m 41 (upd (m.2.1 41) (300 * s + e) K)).1 33 = nI s from e33, show (sa m 41 (upd (m.2.1 41) (300 * s + e) K)).1 35 = nI e from e35]
  refine ⟨iv, ?_⟩
  rw [ix]
  rintro _ rfl
  rw [show (sa (sa m 41 (upd (m.2.1 41) (300 * s + e) K)) 42 (upd ((sa m 41 (upd (m.2.1 41) (300 * s + e) K)).2.1 42) (300 * s + e) N)).1 35 = nI e from e35, nI_1]
  rintro _ rfl _ rfl
  refine hq _ ⟨Fr_si (by decide) (Fr_sa (by decide) (by decide) (Fr_sa (by decide) (by decide) Fr_refl)), fun j hj => ⟨?_, ?_⟩⟩ ⟨⟨mc.1, mc.2.1, mc.2.2.1, mc.2.2.2⟩, e32, ⟨p, by omega, e31⟩, fun _ => ⟨hp, e31, rfl, e37, fun j hj => ?_⟩⟩
  · exact upd_ne _ _ (by omega)
  · exact upd_ne _ _ (by omega)
  · show stepR (upd st e x j) (upd (m.2.1 41) (300 * s + e) K (300 * s + j)) (upd (m.2.1 42) (300 * s + e) N (300 * s + j))
    by_cases c : j = e
    · rw [c, upd_eq, upd_eq, upd_eq]
      exact sr
    · rw [upd_ne _ _ c, upd_ne _ _ (by omega), upd_ne _ _ (by omega)]
      exact rel j (by omega)
def cF (k pl : Nat) : Int32 := if k = 60 then flt pl (nI 3) else 0
theorem cF_0 {k pl : Nat} (hk : k ≤ 60) (hpl : pl ≤ 400) (h : cF k pl = 0) : k + 1 ≤ 60 := by
  unfold cF at h
  by_cases c : k = 60
  · rw [if_pos c] at h
    exact absurd h (flt_ne hpl (by omega))
  · omega
theorem mp_counted_no {m : OV} {pl F : Int32} (nz : ¬ F = 0) (h : m.1 32 = F) {post : OV → Prop} (hq : ∀ m', Fr [32, 37] [] [] [] m m' → m'.1 32 = F → post m') : PX9_isCounted m pl post := by
  unfold PX9_isCounted PX9_isCounted_b15
  refine br_nc (fun _ => ?_) (fun _ => ?_)
  · rintro _ rfl _ rfl
    exact hq _ (Fr_si (by decide) Fr_refl) h
  · unfold PX9_fails
    refine br_nf (by rw [h]; exact nz) ?_
    rintro _ rfl _ rfl _ rfl _ rfl
    exact hq _ (Fr_si (by decide) (Fr_si (by decide) Fr_refl)) h
theorem mp_counted {m0 m : OV} {L s p e k pl : Nat} {st : Nat → Int32} (hL : L ≤ 400) (hk : k ≤ 60) (hpl : pl ≤ 400) (w : MS m0 L s 0 p e k st m) {post : OV → Prop} (hq : ∀ m', Fr [32, 37] [] [] [] m m' → MS m0 L s (cF k pl) p e (k + 1) st m' → post m') : PX9_isCounted m (nI pl) post := by
  obtain ⟨mc, e32, _, g⟩ := id w
  obtain ⟨hp, e31, e35, e37, rel⟩ := g rfl
  unfold PX9_isCounted PX9_isCounted_b15
  rw [e37]
  refine br_nc (fun c => ?_) (fun c => ?_)
  · rw [nI_1]
    rintro _ rfl _ rfl
    have c' : ¬ k = 60 := fun y => c (by rw [y]; rfl)
    refine hq _ (Fr_si (by decide) Fr_refl) ?_
    unfold cF
    rw [if_neg c']
    exact ⟨⟨mc.1, mc.2.1, mc.2.2.1, mc.2.2.2⟩, e32, ⟨p, by omega, e31⟩, fun _ => ⟨hp, e31, e35, rfl, rel⟩⟩
  · have c' : k = 60 := nI_inj (b := 60) (by omega) (by omega) c
    refine mp_fails (k := nI 3) (MS_rm w) (fun m1 f1 r1 => ?_)
    rw [fst_z] at r1
    rintro _ rfl _ rfl
    refine hq _ (Fr_si (by decide) (Fr_mono f1 (by decide) (by decide) (by decide) (by decide))) ?_
    unfold cF
    rw [if_pos c']
    have mc1 : MC m0 L s m1 := MC_fr mc f1 (by decide) (by decide)
    exact MS_F _ _ _ _ (MC_fr mc1 (I := [37]) (A := []) (Fr_si (by decide) Fr_refl) (by decide) (by decide)) (flt_ne hpl (by omega)) r1.2.2 ⟨p, by omega, r1.2.1⟩
theorem cp_countAt_no {q r u t : OV} {L p : Nat} {F pl : Int32} (nz : ¬ F = 0) (h : RD r L p F) {post : OV → OV → Prop} (hq : ∀ q' r', RD r' L p F → post q' r') : PX4_countAt q r u t pl post := by
  unfold PX4_countAt
  rintro _ rfl _ rfl
  refine br_c (fun _ => hq _ _ h) (fun _ => ?_)
  unfold PX2_failAt
  first
  | exact br_nf (by rw [h.2.2]; exact nz) (hq _ _ h)
  | exact br_f (by rw [h.2.2]; exact nz) (hq _ _ h)
theorem cp_countAt {q r u t : OV} {L p k pl : Nat} {f : Int32} (hk : k ≤ 60) (e2 : q.1 2 = nI k) (h : RD r L p f) {post : OV → OV → Prop} (hq : ∀ q' r', q'.1 2 = nI (k + 1) → RD r' L p (fst0 f (cF k pl)) → post q' r') : PX4_countAt q r u t (nI pl) post := by
  unfold PX4_countAt
  rw [e2, nI_1]
  rintro _ rfl _ rfl
  show (nI (k + 1) ≤ 60 → _) ∧ (¬ nI (k + 1) ≤ 60 → _)
  unfold cF at hq
  refine br_c (fun g => ?_) (fun g => ?_)
  · have := (nI_leI (b := 60) (by omega) (by omega)).mp g
    rw [if_neg (by omega)] at hq
    refine hq _ _ rfl ?_
    have : fst0 f 0 = f := by
      unfold fst0
      split
      · next z => exact z.symm
      · rfl
    rw [this]
    exact h
  · have : k = 60 := Classical.byContradiction (fun y => g (fr_le (b := 60) (by omega) (by omega)))
    rw [if_pos this] at hq
    exact cp_failAt (k := nI 3) h (fun r' h' => hq _ r' rfl h')
/-- kinds of a stretch of steps -/
def TyU (st : Nat → Int32) (a b : Nat) (τ τ' : List Bool) : Prop := a ≤ b ∧ tyS st a (b - a) τ = some τ'
theorem TyU_refl (st : Nat → Int32) (a : Nat) (τ : List Bool) : TyU st a a τ τ := ⟨Nat.le_refl a, by rw [Nat.sub_self]; rfl⟩
theorem tyS_fr {st st' : Nat → Int32} {a : Nat} {τ : List Bool} : ∀ n, (∀ j, j < a + n → st' j = st j) → tyS st' a n τ = tyS st a n τ
  | 0, _ => rfl
  | n + 1, h => by
    show (tyS st' a n τ).bind (ty1 (st' (a + n))) = (tyS st a n τ).bind (ty1 (st (a + n)))
    rw [tyS_fr n (fun j hj => h j (by omega)), h (a + n) (by omega)]
theorem TyU_fr {st st' : Nat → Int32} {a b : Nat} {τ τ' : List Bool} (x : TyU st a b τ τ') (h : ∀ j, j < b → st' j = st j) : TyU st' a b τ τ' := ⟨x.1, by rw [tyS_fr _ (fun j hj => h j (by have := x.1; omega))]; exact x.2⟩
theorem tyS_add {st : Nat → Int32} {a : Nat} {τ τ1 : List Bool} {n : Nat} (h : tyS st a n τ = some τ1) : ∀ k, tyS st a (n + k) τ = tyS st (a + n) k τ1
  | 0 => h
  | k + 1 => by
    show (tyS st a (n + k) τ).bind (ty1 (st (a + (n + k)))) = (tyS st (a + n) k τ1).bind (ty1 (st (a + n + k)))
    rw [tyS_add h k, Nat.add_assoc]
theorem TyU_trans {st : Nat → Int32} {a b c : Nat} {τ τ1 τ2 : List Bool} (x : TyU st a b τ τ1) (y : TyU st b c τ1 τ2) : TyU st a c τ τ2 := by
  obtain ⟨h1, x⟩ := x
  obtain ⟨h2, y⟩ := y
  refine ⟨by omega, ?_⟩
  have := tyS_add x (c - b)
  rw [show c - a = b - a + (c - b) by omega, this, show a + (b - a) = b by omega]
  exact y
theorem TyU_one {st : Nat → Int32} {b : Nat} {τ τ' : List Bool} (h : ty1 (st b) τ = some τ') : TyU st b (b + 1) τ τ' := ⟨by omega, by
  rw [show b + 1 - b = 0 + 1 by omega]
  show (some τ).bind (ty1 (st (b + 0))) = some τ'
  exact h⟩
