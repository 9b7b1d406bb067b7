/-! 55: clauses; words of a seeker and a stone; ratings -/
theorem fr_rel {σ : Type} (W : Nat → Nat → σ → Prop) (Inv : Nat → σ → Prop) (S : Nat) (s0 : σ) (h0 : Inv 0 s0) (hx : ∀ n s, Inv S s → W (n + 1) S s) (hs : ∀ n i s, i < S → Inv i s → (∀ s', Inv (i + 1) s' → W n (i + 1) s') → W (n + 1) i s) : ∃ n, W n 0 s0 := by
  refine ⟨S + 1, ?_⟩
  have key : ∀ k i s, i + k = S → Inv i s → W (k + 1) i s := by
    intro k
    induction k with
    | zero =>
      intro i s hi h
      have e : i = S := by omega
      subst e
      exact hx 0 s h
    | succ k ih =>
      intro i s hi h
      exact hs (k + 1) i s (by omega) h (fun s' h' => ih (i + 1) s' (by omega) h')
  exact key S 0 s0 (by omega) h0
/-- what may change in the reference: ints, arrays, entries of its first array, long arrays -/
def Fr (I A C L : List Nat) (m m' : OV) : Prop := (∀ k, k ∉ I → m'.1 k = m.1 k) ∧ (∀ k, k ∉ A → k ≠ 1 → m'.2.1 k = m.2.1 k) ∧ (∀ j, j ∉ C → m'.2.1 1 j = m.2.1 1 j) ∧ ∀ k, k ∉ L → m'.2.2 k = m.2.2 k
theorem Fr_refl {I A C L : List Nat} {m : OV} : Fr I A C L m m := ⟨fun _ _ => rfl, fun _ _ _ => rfl, fun _ _ => rfl, fun _ _ => rfl⟩
theorem Fr_trans {I A C L : List Nat} {m m' m'' : OV} (h : Fr I A C L m m') (g : Fr I A C L m' m'') : Fr I A C L m m'' := ⟨fun k e => (g.1 k e).trans (h.1 k e), fun k e n => (g.2.1 k e n).trans (h.2.1 k e n), fun k e => (g.2.2.1 k e).trans (h.2.2.1 k e), fun k e => (g.2.2.2 k e).trans (h.2.2.2 k e)⟩
theorem Fr_mono {I A C L I' A' C' L' : List Nat} {m m' : OV} (h : Fr I A C L m m') (hI : ∀ k, k ∈ I → k ∈ I') (hA : ∀ k, k ∈ A → k ∈ A') (hC : ∀ k, k ∈ C → k ∈ C') (hL : ∀ k, k ∈ L → k ∈ L') : Fr I' A' C' L' m m' := ⟨fun k e => h.1 k (fun q => e (hI k q)), fun k e n => h.2.1 k (fun q => e (hA k q)) n, fun k e => h.2.2.1 k (fun q => e (hC k q)), fun k e => h.2.2.2 k (fun q => e (hL k q))⟩
theorem Fr_si {I A C L : List Nat} {m m' : OV} {k : Nat} {x : Int32} (hk : k ∈ I) (h : Fr I A C L m m') : Fr I A C L m (si m' k x) := ⟨fun j e => (si_ne m' x (fun q => e (by rw [q]; exact hk))).trans (h.1 j e), h.2.1, h.2.2.1, h.2.2.2⟩
theorem Fr_sl {I A C L : List Nat} {m m' : OV} {k : Nat} {f : Nat → Int64} (hk : k ∈ L) (h : Fr I A C L m m') : Fr I A C L m (sl m' k f) := ⟨h.1, h.2.1, h.2.2.1, fun j e => (if_neg (fun q => e (by rw [q]; exact hk))).trans (h.2.2.2 j e)⟩
theorem Fr_sa {I A C L : List Nat} {m m' : OV} {k : Nat} {f : Nat → Int32} (hk : k ∈ A) (h1 : k ≠ 1) (h : Fr I A C L m m') : Fr I A C L m (sa m' k f) := ⟨h.1, fun j e n => (sa_ne m' f (fun q => e (by rw [q]; exact hk))).trans (h.2.1 j e n), fun j e => by rw [sa_ne m' f (Ne.symm h1)]; exact h.2.2.1 j e, h.2.2.2⟩
theorem Fr_sc {I A C L : List Nat} {m m' : OV} {i : Nat} {x : Int32} (hk : i ∈ C) (h : Fr I A C L m m') : Fr I A C L m (sa m' 1 (upd (m'.2.1 1) i x)) := ⟨h.1, fun j e n => (sa_ne m' _ n).trans (h.2.1 j e n), fun j e => by rw [sa_at, upd_ne _ _ (fun q => e (by rw [q]; exact hk))]; exact h.2.2.1 j e, h.2.2.2⟩
/-! a rule's clauses -/
def stA (u : OV) (i : Nat) : Nat := (u.2.1 2 i).toNatClampNeg
def stB (u : OV) (i : Nat) : Nat := (u.2.1 3 i).toNatClampNeg
def rlN (u : OV) : Nat := (u.1 4).toNatClampNeg
def RuleOk (u : OV) : Prop := rlN u ≤ 12 ∧ u.1 4 = nI (rlN u) ∧ (∀ i, i ≤ rlN u → u.2.1 2 i = nI (stA u i)) ∧ (∀ i, i < rlN u → u.2.1 3 i = nI (stB u i)) ∧ ∀ i, i < rlN u → (stA u i ≤ stB u i ∧ stB u i ≤ stA u (i + 1) ∧ stA u (i + 1) ≤ 300 ∧ tyS (u.2.1 0) (stA u i) (stB u i - stA u i) [] = some [false] ∧ (stB u i < stA u (i + 1) → tyS (u.2.1 0) (stB u i) (stA u (i + 1) - stB u i) [] = some [true]))
def sumK (u : OV) (w : Nat → Int64) : Nat → Nat → Int64
  | 0, _ => 0
  | k + 1, i => if stB u i = stA u (i + 1) ∨ ¬ valS (u.2.1 0) w (stB u i) (stA u (i + 1) - stB u i) = 0 then valS (u.2.1 0) w (stA u i) (stB u i - stA u i) else sumK u w k (i + 1)
def sumV (u : OV) (w : Nat → Int64) : Int64 := sumK u w (rlN u) 0
theorem RuleOk_sl {u : OV} {f : Nat → Int64} (h : RuleOk u) : RuleOk (sl u 5 f) := h
theorem cp_sum {u W : OV} {w : Nat → Int64} (ok : RuleOk u) (hw : ∀ k, k < 14 → W.2.2 0 k = w k) {post : Int64 → OV → Prop} (hp : ∀ f, post (sumV u w) (sl u 5 f)) : PX3_sum u W post := by
  obtain ⟨hn, e4, eA, eB, seg⟩ := ok
  unfold PX3_sum
  refine ⟨rlN u + 1, ?_⟩
  have key : ∀ k i, i + k = rlN u → (∀ f, post (sumK u w k i) (sl u 5 f)) → ∀ f, PX3_sum_L2 W post (k + 1) (nI i) (sl u 5 f) := by
    intro k
    induction k with
    | zero =>
      intro i hi hq f
      have e : i = rlN u := by omega
      unfold PX3_sum_L2
      rw [show (sl u 5 f).1 4 = u.1 4 from rfl, e4, e]
      exact br_t (Int32.le_refl _) (hq f)
    | succ k ih =>
      intro i hi hq f
      obtain ⟨s1, s2, s3, s4, s5⟩ := seg i (by omega)
      unfold PX3_sum_L2
      rw [show (sl u 5 f).1 4 = u.1 4 from rfl, e4, nI_1, nI_31 (show i < 1000 by omega), nI_31 (show i + 1 < 1000 by omega), show (sl u 5 f).2.1 3 i = u.2.1 3 i from rfl, show (sl u 5 f).2.1 2 (i + 1) = u.2.1 2 (i + 1) from rfl, eB i (by omega), eA (i + 1) (by omega)]
      refine br_f (fr_nle (by omega) (by omega)) ⟨vp_in_q (by omega) (by omega), vp_in_q (by omega) (by omega), ?_⟩
      have body : (∀ f, post (valS (u.2.1 0) w (stA u i) (stB u i - stA u i)) (sl u 5 f)) → ∀ f, PX3_sum_b61 W post (nI i) (sl u 5 f) := by
        intro hv f
        unfold PX3_sum_b61
        rw [nI_31 (show i < 1000 by omega), show (sl u 5 f).2.1 3 i = u.2.1 3 i from rfl, show (sl u 5 f).2.1 2 i = u.2.1 2 i from rfl, eB i (by omega), eA i (by omega)]
        refine ⟨vp_in_q (by omega) (by omega), vp_in_q (by omega) (by omega), ?_⟩
        have go : ∀ N, N = stB u i - stA u i → PX3_run (sl u 5 f) W (nI (stA u i)) (nI (stA u i + N)) (fun r4 v_u3 => post r4 v_u3) := by
          intro N eN
          rw [← eN] at s4 hv
          refine cp_run (u := sl u 5 f) (by omega) s4 ?_
          rw [sl_sl]
          have := val_eq (f := (sl u 5 f).2.2 5) hw s4
          rw [show (sl u 5 f).2.1 0 = u.2.1 0 from rfl, this]
          exact hv _
        have := go _ rfl
        rw [show stA u i + (stB u i - stA u i) = stB u i by omega] at this
        exact this
      have hq' : ∀ f, post (if stB u i = stA u (i + 1) ∨ ¬ valS (u.2.1 0) w (stB u i) (stA u (i + 1) - stB u i) = 0 then valS (u.2.1 0) w (stA u i) (stB u i - stA u i) else sumK u w k (i + 1)) (sl u 5 f) := hq
      by_cases c : stB u i = stA u (i + 1)
      · refine br_nt (by rw [c]) ?_
        unfold PX3_sum_b32
        refine br_nf (by decide) (body ?_ f)
        intro f
        have := hq' f
        rw [if_pos (Or.inl c)] at this
        exact this
      · refine br_nf (fun e => c (nI_inj (by omega) (by omega) e)) ?_
        unfold PX3_sum_b32
        refine br_nt rfl ?_
        rw [nI_1, nI_31 (show i < 1000 by omega), nI_31 (show i + 1 < 1000 by omega), show (sl u 5 f).2.1 3 i = u.2.1 3 i from rfl, show (sl u 5 f).2.1 2 (i + 1) = u.2.1 2 (i + 1) from rfl, eB i (by omega), eA (i + 1) (by omega)]
        refine ⟨vp_in_q (by omega) (by omega), vp_in_q (by omega) (by omega), ?_⟩
        have s6 := s5 (by omega)
        have e : stA u (i + 1) = stB u i + (stA u (i + 1) - stB u i) := by omega
        have goal : ∀ N, N = stA u (i + 1) - stB u i → PX3_run (sl u 5 f) W (nI (stB u i)) (nI (stB u i + N)) (fun r5 v_u4 => (((lg_cmp r5 ((0 : Int64))) = ((0 : Int32)) → (∀ x8 : Int32, x8 = nI i + (1 : Int32) → PX3_sum_L2 W post (k + 1) x8 v_u4)) ∧ (¬ (lg_cmp r5 ((0 : Int64))) = ((0 : Int32)) → PX3_sum_b61 W post (nI i) v_u4))) := by
          intro N eN
          rw [← eN] at s6
          refine cp_run (u := sl u 5 f) (by omega) s6 ?_
          rw [sl_sl]
          have v := val_eq (f := (sl u 5 f).2.2 5) hw s6
          rw [show (sl u 5 f).2.1 0 = u.2.1 0 from rfl, v, lg_cmp_eq, eN]
          refine br_c (fun z => ?_) (fun z => ?_)
          · rintro _ rfl
            rw [nI_1]
            refine ih (i + 1) (by omega) (fun f => ?_) _
            have := hq' f
            rw [if_neg (fun q => q.elim c (fun y => y z))] at this
            exact this
          · refine body (fun f => ?_) _
            have := hq' f
            rw [if_pos (Or.inr z)] at this
            exact this
        have := goal _ rfl
        rw [← e] at this
        rw [nI_1] at *
        exact this
  have := key (rlN u) 0 (by omega) hp (u.2.2 5)
  rw [sl_self] at this
  exact this
/-- the reference's r-th rule is u -/
def RuleRel (u : OV) (r : Nat) (m : OV) : Prop := m.2.1 43 r = nI (rlN u) ∧ ∀ i, i < rlN u → (m.2.1 44 (12 * r + i) = nI (stA u i) ∧ m.2.1 45 (12 * r + i) = nI (stB u i) ∧ m.2.1 46 (12 * r + i) = nI (stA u (i + 1)) ∧ SR m r (u.2.1 0) (stA u i) (stA u (i + 1) - stA u i))
theorem SR_cut {m : OV} {r : Nat} {st : Nat → Int32} {a n b k : Nat} (h : SR m r st a n) (h1 : a ≤ b) (h2 : b + k ≤ a + n) : SR m r st b k := fun i hi => by
  have := h (b - a + i) (by omega)
  rwa [show a + (b - a + i) = b + i by omega] at this
theorem mp_wanted {m u : OV} {r : Nat} {w : Nat → Int64} (ok : RuleOk u) (hr : r < 6) (e11 : m.2.1 1 11 = nI r) (rel : RuleRel u r m) (hw : ∀ k, k < 14 → m.2.2 48 k = w k) {post : Int64 → OV → Prop} (hp : ∀ f, post (sumV u w) (sl m 49 f)) : PX9_wanted m post := by
  obtain ⟨hn, e4, eA, eB, seg⟩ := ok
  obtain ⟨e43, rel⟩ := rel
  unfold PX9_wanted
  rw [show m.2.1 1 ((11 : Int32)).toNatClampNeg = nI r from e11]
  rintro _ rfl
  rw [show ((12 : Int32)) * nI r = nI (12 * r + 0) from nI_lin 12 r 0 ▸ (Int32.add_zero _).symm]
  rintro _ rfl
  refine ⟨rlN u + 1, ?_⟩
  have key : ∀ k i, i + k = rlN u → (∀ f, post (sumK u w k i) (sl m 49 f)) → ∀ f, PX9_wanted_L13 post (k + 1) (nI r) (nI (12 * r + i)) (sl m 49 f) := by
    intro k
    induction k with
    | zero =>
      intro i hi hq f
      have e : i = rlN u := by omega
      unfold PX9_wanted_L13
      rw [nI_31 (show r < 1000 by omega), show (sl m 49 f).2.1 43 r = m.2.1 43 r from rfl, e43, show ((12 : Int32)) * nI r + nI (rlN u) = nI (12 * r + rlN u) from nI_lin 12 r _, e]
      exact ⟨vp_in_q hr (by omega), br_t (Int32.le_refl _) (hq f)⟩
    | succ k ih =>
      intro i hi hq f
      obtain ⟨s1, s2, s3, s4, s5⟩ := seg i (by omega)
      obtain ⟨r4, r5, r6, r7⟩ := rel i (by omega)
      unfold PX9_wanted_L13
      rw [nI_31 (show r < 1000 by omega), show (sl m 49 f).2.1 43 r = m.2.1 43 r from rfl, e43, show ((12 : Int32)) * nI r + nI (rlN u) = nI (12 * r + rlN u) from nI_lin 12 r _, nI_31 (show 12 * r + i < 1000 by omega), show (sl m 49 f).2.1 45 (12 * r + i) = m.2.1 45 (12 * r + i) from rfl, show (sl m 49 f).2.1 46 (12 * r + i) = m.2.1 46 (12 * r + i) from rfl, r5, r6]
      refine ⟨vp_in_q hr (by omega), br_f (fr_nle (by omega) (by omega)) ⟨vp_in_q (by omega) (by omega), vp_in_q (by omega) (by omega), ?_⟩⟩
      have body : (∀ f, post (valS (u.2.1 0) w (stA u i) (stB u i - stA u i)) (sl m 49 f)) → ∀ f, PX9_wanted_b65 post (nI r) (nI (12 * r + i)) (sl m 49 f) := by
        intro hv f
        unfold PX9_wanted_b65
        rw [nI_31 (show 12 * r + i < 1000 by omega), show (sl m 49 f).2.1 44 (12 * r + i) = m.2.1 44 (12 * r + i) from rfl, show (sl m 49 f).2.1 45 (12 * r + i) = m.2.1 45 (12 * r + i) from rfl, r4, r5]
        refine ⟨vp_in_q (by omega) (by omega), vp_in_q (by omega) (by omega), ?_⟩
        have go : ∀ N, N = stB u i - stA u i → PX9_answer (sl m 49 f) (nI r) (nI (stA u i)) (nI (stA u i + N)) (fun r4 v_m3 => post r4 v_m3) := by
          intro N eN
          rw [← eN] at s4 hv
          refine mp_answer (m := sl m 49 f) hr (by omega) (SR_cut r7 (Nat.le_refl _) (by omega)) s4 ?_
          rw [sl_sl]
          have := val_eq (f := (sl m 49 f).2.2 49) hw s4
          rw [show (sl m 49 f).2.2 48 = m.2.2 48 from rfl, this]
          exact hv _
        have := go _ rfl
        rw [show stA u i + (stB u i - stA u i) = stB u i by omega] at this
        exact this
      have hq' : ∀ f, post (if stB u i = stA u (i + 1) ∨ ¬ valS (u.2.1 0) w (stB u i) (stA u (i + 1) - stB u i) = 0 then valS (u.2.1 0) w (stA u i) (stB u i - stA u i) else sumK u w k (i + 1)) (sl m 49 f) := hq
      by_cases c : stB u i = stA u (i + 1)
      · refine br_t (by rw [c]) (body (fun f => ?_) f)
        have := hq' f
        rw [if_pos (Or.inl c)] at this
        exact this
      · refine br_f (fun e => c (nI_inj (by omega) (by omega) e)) ⟨vp_in_q (by omega) (by omega), vp_in_q (by omega) (by omega), ?_⟩
        have s6 := s5 (by omega)
        have go : ∀ N, N = stA u (i + 1) - stB u i → PX9_answer (sl m 49 f) (nI r) (nI (stB u i)) (nI (stB u i + N)) (fun r9 v_m8 => ((¬ (lg_cmp r9 ((1 : Int64))) = ((0 : Int32)) → (∀ x12 : Int32, x12 = nI (12 * r + i) + (1 : Int32) → PX9_wanted_L13 post (k + 1) (nI r) x12 v_m8)) ∧ ((lg_cmp r9 ((1 : Int64))) = ((0 : Int32)) → PX9_wanted_b65 post (nI r) (nI (12 * r + i)) v_m8))) := by
          intro N eN
          have s6' := s6
          rw [← eN] at s6
          refine mp_answer (m := sl m 49 f) hr (by omega) (SR_cut r7 s1 (by omega)) s6 ?_
          rw [sl_sl]
          have v := val_eq (f := (sl m 49 f).2.2 49) hw s6
          rw [show (sl m 49 f).2.2 48 = m.2.2 48 from rfl, v, lg_cmp_eq, eN]
          have v01 := val_01 (w := w) s6'
          refine br_nc (fun z => ?_) (fun z => ?_)
          · have z0 := v01.resolve_right z
            rintro _ rfl
            rw [nI_1, show 12 * r + i + 1 = 12 * r + (i + 1) by omega]
            refine ih (i + 1) (by omega) (fun f => ?_) _
            have := hq' f
            rw [if_neg (fun q => q.elim c (fun y => y z0))] at this
            exact this
          · refine body (fun f => ?_) _
            have := hq' f
            rw [if_pos (Or.inr (fun y => by rw [y] at z; exact absurd z (by decide)))] at this
            exact this
        have := go _ rfl
        rw [show stB u i + (stA u (i + 1) - stB u i) = stA u (i + 1) by omega] at this
        exact this
  have := key (rlN u) 0 (by omega) hp (m.2.2 49)
  rw [sl_self] at this
  exact this
