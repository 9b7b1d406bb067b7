/-! 54: running a rule, class and reference -/
theorem nI_lin (c r i : Nat) : nI c * nI r + nI i = nI (c * r + i) := by
  rw [← nI_add]
  congr 1
  exact (Int32.ofNat_mul c r).symm
theorem nI_dn {k : Nat} : nI (k + 1) + (-1 : Int32) = nI k := by
  rw [← nI_1, Int32.add_assoc, show (1 : Int32) + (-1) = 0 by decide, Int32.add_zero]
theorem nI_dn1 {k : Nat} : nI (k + 1) - (1 : Int32) = nI k := nI_pred k
theorem s_word {s : Int32} (c : ¬ s ≤ -15) (n : s < 0) : ∃ k, k < 14 ∧ -1 - s = nI k := by
  have h3 : (-15 : Int32) < s := Int32.not_le.mp c
  rw [Int32.lt_iff_toInt_lt] at h3 n
  have e15 : ((-15 : Int32)).toInt = -15 := by decide
  have e0 : ((0 : Int32)).toInt = 0 := by decide
  rw [e15] at h3
  rw [e0] at n
  have ex : ∃ k : Nat, k < 14 ∧ s.toInt = -1 - (k : Int) := ⟨(-1 - s.toInt).toNat, by omega, by omega⟩
  obtain ⟨k, hk, e⟩ := ex
  refine ⟨k, hk, ?_⟩
  have all : ∀ k, k < 14 → -1 - (-1 - nI k) = nI k ∧ (-1 - nI k).toInt = -1 - (k : Int) := by decide +kernel
  have es : s = -1 - nI k := i32_eqv (by rw [e, (all k hk).2])
  rw [es]
  exact (all k hk).1
theorem ty_push {s : Int32} {τ τ' : List Bool} (c : ¬ s ≤ -15) (h : ty1 s τ = some τ') : τ.length < 60 := by
  unfold ty1 at h
  rw [if_neg c] at h
  by_cases g : τ.length < 60
  · exact g
  · rw [if_neg g] at h
    cases h
theorem ty_not {τ τ' : List Bool} (h : ty1 (-27) τ = some τ') : 1 ≤ τ.length := by
  match τ, h with
  | _ :: r, _ => exact Nat.le_add_left 1 r.length
theorem ty_two {s : Int32} {τ τ' : List Bool} (c : s ≤ -15) (d : ¬ s = -27) (h : ty1 s τ = some τ') : 2 ≤ τ.length ∧ ((-24 ≤ s ∧ s ≤ -15) ∨ s = -25 ∨ s = -26) := by
  unfold ty1 at h
  rw [if_pos c, if_neg d] at h
  by_cases g : s = -25 ∨ s = -26
  · rw [if_pos g] at h
    obtain ⟨r, rfl, rfl⟩ := ty2_some h
    exact ⟨by show 2 ≤ r.length + 2; omega, Or.inr g⟩
  · rw [if_neg g] at h
    by_cases k : -24 ≤ s ∧ s ≤ -20
    · rw [if_pos k] at h
      obtain ⟨r, rfl, rfl⟩ := ty2_some h
      exact ⟨by show 2 ≤ r.length + 2; omega, Or.inl ⟨k.1, c⟩⟩
    · rw [if_neg k] at h
      by_cases j : -19 ≤ s
      · rw [if_pos j] at h
        obtain ⟨r, rfl, rfl⟩ := ty2_some h
        exact ⟨by show 2 ≤ r.length + 2; omega, Or.inl ⟨Int32.le_trans (by decide) j, c⟩⟩
      · rw [if_neg j] at h
        cases h
theorem ty_len {st : Nat → Int32} {a : Nat} : ∀ {n : Nat} {τ : List Bool}, tyS st a n [] = some τ → τ.length ≤ 60
  | 0, τ, h => by
    have h' : some [] = some τ := h
    cases h'
    exact Nat.zero_le 60
  | n + 1, τ, h => by
    have h' : (tyS st a n []).bind (ty1 (st (a + n))) = some τ := h
    cases e : tyS st a n [] with
    | none => rw [e] at h'; cases h'
    | some τ1 =>
      rw [e] at h'
      have h2 : ty1 (st (a + n)) τ1 = some τ := h'
      have ih := ty_len e
      by_cases c : st (a + n) ≤ -15
      · by_cases d : st (a + n) = -27
        · rw [d] at h2
          match τ1, h2, ih with
          | true :: r, h2, ih =>
            have h3 : some (true :: r) = some τ := h2
            cases h3
            exact ih
        · unfold ty1 at h2
          rw [if_pos c, if_neg d] at h2
          have fin : ∀ {x y z : Bool}, ty2 x y z τ1 = some τ → τ.length ≤ 60 := by
            intro x y z h5
            obtain ⟨r, rfl, rfl⟩ := ty2_some h5
            have : r.length + 2 ≤ 60 := ih
            show r.length + 1 ≤ 60
            omega
          by_cases g : st (a + n) = -25 ∨ st (a + n) = -26
          · rw [if_pos g] at h2
            exact fin h2
          · rw [if_neg g] at h2
            by_cases k : -24 ≤ st (a + n) ∧ st (a + n) ≤ -20
            · rw [if_pos k] at h2
              exact fin h2
            · rw [if_neg k] at h2
              by_cases j : -19 ≤ st (a + n)
              · rw [if_pos j] at h2
                exact fin h2
              · rw [if_neg j] at h2
                cases h2
      · have := ty_push c h2
        unfold ty1 at h2
        rw [if_neg c, if_pos this] at h2
        cases h2
        show τ1.length + 1 ≤ 60
        omega
theorem cp_run {u W : OV} {a N : Nat} (hN : a + N ≤ 400) {τ : List Bool} (ht : tyS (u.2.1 0) a N [] = some τ) {post : Int64 → OV → Prop} (hp : post ((evS (u.2.1 0) (W.2.2 0) a N (u.2.2 5, 0)).1 0) (sl u 5 (evS (u.2.1 0) (W.2.2 0) a N (u.2.2 5, 0)).1)) : PX3_run u W (nI a) (nI (a + N)) post := by
  unfold PX3_run
  have go := fr_loop (fun n i p => PX3_run_L6 W post n (nI (a + N)) (nI p.2) (nI (a + i)) (sl u 5 p.1)) (fun i p => ev1 (W.2.2 0) (u.2.1 0 (a + i)) p) N (u.2.2 5, 0) ?_ ?_
  · rw [show ((u.2.2 5, 0) : (Nat → Int64) × Nat).1 = u.2.2 5 from rfl, sl_self] at go
    exact go
  · intro n
    unfold PX3_run_L6
    exact br_t (Int32.le_refl _) hp
  · intro n i hi hw
    obtain ⟨τ1, τ2, e1, e2⟩ := tyS_pre ht i hi
    have et := ev_ty (w := W.2.2 0) (f := u.2.2 5) e1
    have el := ty_len e1
    rw [show itn (fun i p => ev1 (W.2.2 0) (u.2.1 0 (a + i)) p) i (u.2.2 5, 0) = evS (u.2.1 0) (W.2.2 0) a i (u.2.2 5, 0) from rfl] at hw ⊢
    generalize evS (u.2.1 0) (W.2.2 0) a i (u.2.2 5, 0) = p at et hw ⊢
    obtain ⟨g, k⟩ := p
    have ek : k = τ1.length := et.1
    show PX3_run_L6 W post (n + 1) (nI (a + N)) (nI k) (nI (a + i)) (sl u 5 g)
    have hw' : PX3_run_L6 W post n (nI (a + N)) (nI (ev1 (W.2.2 0) (u.2.1 0 (a + i)) (g, k)).2) (nI (a + (i + 1))) (sl u 5 (ev1 (W.2.2 0) (u.2.1 0 (a + i)) (g, k)).1) := hw
    rw [show a + (i + 1) = (a + i) + 1 by omega, ← nI_1 (a + i)] at hw'
    unfold PX3_run_L6
    rw [nI_31 (show a + i < 1000 by omega)]
    refine br_f (fr_nle (by omega) (by omega)) ⟨vp_in_q (by omega) (by omega), ?_⟩
    rw [show (sl u 5 g).2.1 0 (a + i) = u.2.1 0 (a + i) from rfl]
    generalize u.2.1 0 (a + i) = s at e2 hw' ⊢
    rintro s rfl
    unfold ev1 at hw'
    by_cases c : s ≤ -15
    · refine br_t c ?_
      rw [if_pos c] at hw'
      unfold PX3_run_b68
      by_cases d : s = -27
      · rw [if_pos d] at hw'
        refine br_nt d ?_
        rw [d] at e2
        have l1 := ty_not e2
        obtain ⟨j, rfl⟩ : ∃ j, k = j + 1 := ⟨k - 1, by omega⟩
        refine br_f (Int32.not_lt.mpr (fr_le (a := 1) (by omega) (by omega))) ?_
        rw [nI_dn1, nI_31 (show j < 1000 by omega)]
        refine ⟨vp_in_q (by omega) (by omega), ?_⟩
        rintro _ rfl
        refine ⟨vp_in_q (by omega) (by omega), ?_⟩
        rintro _ rfl _ rfl
        rw [sl_at, sl_sl]
        exact hw'
      · rw [if_neg d] at hw'
        refine br_nf d ?_
        unfold PX3_run_b104
        have l2 := (ty_two c d e2).1
        obtain ⟨j, rfl⟩ : ∃ j, k = j + 2 := ⟨k - 2, by omega⟩
        refine br_f (Int32.not_lt.mpr (fr_le (a := 2) (by omega) (by omega))) ?_
        rintro _ rfl
        rw [nI_dn, nI_dn1, nI_31 (show j < 1000 by omega), nI_31 (show j + 1 < 1000 by omega)]
        refine ⟨vp_in_q (by omega) (by omega), vp_in_q (by omega) (by omega), cp_joined ?_⟩
        rw [sl_at]
        refine ⟨vp_in_q (by omega) (by omega), ?_⟩
        rintro _ rfl _ rfl
        rw [sl_sl]
        exact hw'
    · refine br_f c ?_
      rw [if_neg c] at hw'
      have l3 := ty_push c e2
      refine br_f (fr_nle (b := 64) (by omega) (by omega)) ?_
      rw [nI_31 (show k < 1000 by omega), sl_at]
      by_cases d : s < 0
      · refine br_t d ?_
        rw [if_pos d] at hw'
        obtain ⟨j, hj, ej⟩ := s_word c d
        rw [ej] at hw' ⊢
        refine ⟨vp_in_q hj (by omega), ?_⟩
        rintro _ rfl
        refine ⟨vp_in_q (by omega) (by omega), ?_⟩
        rintro _ rfl _ rfl _ rfl
        rw [sl_sl, nI_1 k]
        exact hw'
      · refine br_f d ?_
        rw [if_neg d] at hw'
        rintro _ rfl
        refine ⟨vp_in_q (by omega) (by omega), ?_⟩
        rintro _ rfl _ rfl _ rfl
        rw [sl_sl, nI_1 k]
        exact hw'
/-- the reference's entry (sort, number) for a step -/
def stepR (s k v : Int32) : Prop := (k = 0 ∧ v = s ∧ ¬ s < 0) ∨ (k = 1 ∧ ∃ j, j < 14 ∧ v = nI j ∧ s = -1 - nI j) ∨ (k = 9 ∧ s = -27) ∨ (k, s) ∈ opT
theorem opT_no {k s : Int32} (h : (k, s) ∈ opT) : ¬ k = 0 ∧ ¬ k = 1 ∧ ¬ k = 9 ∧ s ≤ -15 ∧ ¬ s = -27 := by
  have all : ∀ x ∈ opT, ¬ x.1 = 0 ∧ ¬ x.1 = 1 ∧ ¬ x.1 = 9 ∧ x.2 ≤ -15 ∧ ¬ x.2 = -27 := by decide +kernel
  exact all (k, s) h
theorem word_no : ∀ j, j < 14 → ¬ (-1 - nI j) ≤ -15 ∧ (-1 - nI j) < 0 ∧ -1 - (-1 - nI j) = nI j := by decide +kernel
def SR (m : OV) (r : Nat) (st : Nat → Int32) (lo n : Nat) : Prop := ∀ i, i < n → stepR (st (lo + i)) (m.2.1 41 (300 * r + (lo + i))) (m.2.1 42 (300 * r + (lo + i)))
theorem mp_answer {m : OV} {st : Nat → Int32} {r a N : Nat} (hr : r < 6) (hN : a + N ≤ 300) (hs : SR m r st a N) {τ : List Bool} (ht : tyS st a N [] = some τ) {post : Int64 → OV → Prop} (hp : post ((evS st (m.2.2 48) a N (m.2.2 49, 0)).1 0) (sl m 49 (evS st (m.2.2 48) a N (m.2.2 49, 0)).1)) : PX9_answer m (nI r) (nI a) (nI (a + N)) post := by
  unfold PX9_answer
  have go := fr_loop (fun n i p => PX9_answer_L6 post n (nI r) (nI (a + N)) (nI p.2) (nI (a + i)) (sl m 49 p.1)) (fun i p => ev1 (m.2.2 48) (st (a + i)) p) N (m.2.2 49, 0) ?_ ?_
  · rw [show ((m.2.2 49, 0) : (Nat → Int64) × Nat).1 = m.2.2 49 from rfl, sl_self] at go
    exact go
  · intro n
    unfold PX9_answer_L6
    exact br_t (Int32.le_refl _) hp
  · intro n i hi hw
    obtain ⟨τ1, τ2, e1, e2⟩ := tyS_pre ht i hi
    have et := ev_ty (w := m.2.2 48) (f := m.2.2 49) e1
    have el := ty_len e1
    rw [show itn (fun i p => ev1 (m.2.2 48) (st (a + i)) p) i (m.2.2 49, 0) = evS st (m.2.2 48) a i (m.2.2 49, 0) from rfl] at hw ⊢
    generalize evS st (m.2.2 48) a i (m.2.2 49, 0) = p at et hw ⊢
    obtain ⟨g, k⟩ := p
    have ek : k = τ1.length := et.1
    have sr := hs i hi
    show PX9_answer_L6 post (n + 1) (nI r) (nI (a + N)) (nI k) (nI (a + i)) (sl m 49 g)
    have hw' : PX9_answer_L6 post n (nI r) (nI (a + N)) (nI (ev1 (m.2.2 48) (st (a + i)) (g, k)).2) (nI (a + (i + 1))) (sl m 49 (ev1 (m.2.2 48) (st (a + i)) (g, k)).1) := hw
    rw [show a + (i + 1) = (a + i) + 1 by omega, ← nI_1 (a + i)] at hw'
    unfold PX9_answer_L6
    rw [show ((300 : Int32)) * nI r + nI (a + i) = nI (300 * r + (a + i)) from nI_lin 300 r (a + i), nI_clamp (show 300 * r + (a + i) < 2 ^ 31 by omega)]
    refine br_f (fr_nle (by omega) (by omega)) ⟨vp_in_q (by omega) (by omega), ?_⟩
    rw [show (sl m 49 g).2.1 41 (300 * r + (a + i)) = m.2.1 41 (300 * r + (a + i)) from rfl, show (sl m 49 g).2.1 42 (300 * r + (a + i)) = m.2.1 42 (300 * r + (a + i)) from rfl]
    generalize st (a + i) = s at e2 hw' sr
    generalize m.2.1 41 (300 * r + (a + i)) = x at sr ⊢
    generalize m.2.1 42 (300 * r + (a + i)) = y at sr ⊢
    rintro x rfl
    refine ⟨vp_in_q (by omega) (by omega), ?_⟩
    rintro y rfl
    unfold ev1 at hw'
    rcases sr with ⟨rfl, rfl, hn⟩ | ⟨rfl, j, hj, rfl, rfl⟩ | ⟨rfl, rfl⟩ | ho
    · have c : ¬ y ≤ -15 := fun c => hn (Int32.lt_of_le_of_lt c (by decide))
      rw [if_neg c, if_neg hn] at hw'
      have l3 := ty_push c e2
      refine br_t rfl ?_
      unfold PX9_answer_b53
      refine br_nt rfl ?_
      rw [nI_31 (show k < 1000 by omega), sl_at]
      rintro _ rfl
      refine ⟨vp_in_q (by omega) (by omega), ?_⟩
      rintro _ rfl _ rfl _ rfl
      rw [sl_sl, nI_1 k]
      exact hw'
    · obtain ⟨c, d, ej⟩ := word_no j hj
      rw [if_neg c, if_pos d, ej, nI_31 (show j < 1000 by omega)] at hw'
      have l3 := ty_push c e2
      refine br_f (by decide) (br_nt rfl ?_)
      unfold PX9_answer_b53
      refine br_nf (by decide) ⟨vp_in_q hj (by omega), ?_⟩
      rw [nI_31 (show k < 1000 by omega), nI_31 (show j < 1000 by omega), sl_at]
      rintro _ rfl
      refine ⟨vp_in_q (by omega) (by omega), ?_⟩
      rintro _ rfl _ rfl _ rfl
      rw [sl_sl, nI_1 k]
      exact hw'
    · rw [if_pos (by decide), if_pos rfl] at hw'
      have l1 := ty_not e2
      obtain ⟨j, rfl⟩ : ∃ j, k = j + 1 := ⟨k - 1, by omega⟩
      refine br_f (by decide) (br_nf (by decide) (br_nt rfl ?_))
      rw [nI_dn1, nI_31 (show j < 1000 by omega), sl_at]
      refine ⟨vp_in_q (by omega) (by omega), ?_⟩
      rintro _ rfl
      refine ⟨vp_in_q (by omega) (by omega), ?_⟩
      rintro _ rfl _ rfl
      rw [sl_sl]
      exact hw'
    · obtain ⟨n0, n1, n9, c, d⟩ := opT_no ho
      rw [if_pos c, if_neg d] at hw'
      have l2 := (ty_two c d e2).1
      obtain ⟨j, rfl⟩ : ∃ j, k = j + 2 := ⟨k - 2, by omega⟩
      refine br_f n0 (br_nf n1 (br_nf n9 ?_))
      rintro _ rfl
      rw [nI_dn, nI_dn1, nI_31 (show j < 1000 by omega), nI_31 (show j + 1 < 1000 by omega), sl_at]
      refine ⟨vp_in_q (by omega) (by omega), vp_in_q (by omega) (by omega), mp_both ho ?_⟩
      refine ⟨vp_in_q (by omega) (by omega), ?_⟩
      rintro _ rfl _ rfl
      rw [sl_sl]
      exact hw'
