/-! 58: looking, whole -/
theorem sumK_sl (u : OV) (f : Nat → Int64) (w : Nat → Int64) : ∀ k i, sumK (sl u 5 f) w k i = sumK u w k i
  | 0, _ => rfl
  | k + 1, i => by
    show (if stB u i = stA u (i + 1) ∨ ¬ valS (u.2.1 0) w (stB u i) (stA u (i + 1) - stB u i) = 0 then valS (u.2.1 0) w (stA u i) (stB u i - stA u i) else sumK (sl u 5 f) w k (i + 1)) = _
    rw [sumK_sl u f w k (i + 1)]
    rfl
theorem rat_sl (u : OV) (f : Nat → Int64) (h s : OV) (q t : Nat) : ratS (some (sl u 5 f)) h s q t = ratS (some u) h s q t := sumK_sl u f _ _ _
def lookS (ρ : Option OV) (h s : OV) (q S : Nat) : LK := lkN (fun t => ratS ρ h s q t) h s q S S
theorem cp_look_N {w h s : OV} {q S : Nat} (hq : q < 4) (hS : S ≤ 10) (e4 : h.1 4 = nI S) {post : OV → Prop} (hp : ∀ w', LkW (lookS none h s q S) w' → w'.1 5 = fndS (lookS none h s q S) → post w') : PX7_look_N w h s (nI q) post := by
  unfold PX7_look_N
  refine cp_setSeekerWords hq (fun g _ => ?_)
  refine fr_rel (fun n i w => PX7_look_N_L11 h s post n (nI q) (nI i) w) (fun i w => ∀ t, t < i → w.2.2 1 t = ratS none h s q t) S (sl w 0 g) (fun t ht => absurd ht (Nat.not_lt_zero t)) ?_ ?_
  · intro n w iw
    unfold PX7_look_N_L11
    rw [e4]
    refine br_t (Int32.le_refl _) ?_
    rintro _ rfl _ rfl _ rfl _ rfl
    rw [mk_cl S (by omega)]
    exact cp_lookloop_N (rt := fun t => ratS none h s q t) hq hS e4 (w0 := si (si (si w 3 0) 4 0) 5 0) iw rfl rfl rfl hp
  · intro n i w hi iw next
    unfold PX7_look_N_L11
    rw [e4]
    refine br_f (fr_nle hi (by omega)) (cp_rate_N (by omega) ⟨vp_in_q (by omega) (by omega), ?_⟩)
    rw [nI_31 (show i < 1000 by omega)]
    rintro _ rfl _ rfl
    rw [nI_1]
    refine next _ (fun t ht => ?_)
    rw [sl_at]
    by_cases e : t = i
    · rw [e, updL_eq]
    · rw [updL_ne _ _ e]
      exact iw t (by omega)
theorem cp_look_R {w h u s : OV} {q S : Nat} (hq : q < 4) (hS : S ≤ 10) (e4 : h.1 4 = nI S) (ok : RuleOk u) {post : OV → OV → Prop} (hp : ∀ w' f, LkW (lookS (some u) h s q S) w' → w'.1 5 = fndS (lookS (some u) h s q S) → post w' (sl u 5 f)) : PX7_look_R w h u s (nI q) post := by
  unfold PX7_look_R
  refine cp_setSeekerWords hq (fun g sw => ?_)
  refine fr_rel (fun n i (p : OV × OV) => PX7_look_R_L11 h s post n (nI q) (nI i) p.1 p.2) (fun i p => (∀ t, t < i → p.1.2.2 1 t = ratS (some u) h s q t) ∧ SWd h s q (p.1.2.2 0) ∧ ∃ f, p.2 = sl u 5 f) S (sl w 0 g, u) ⟨fun t ht => absurd ht (Nat.not_lt_zero t), sw, u.2.2 5, (sl_self u 5).symm⟩ ?_ ?_
  · rintro n ⟨w, v⟩ ⟨iw, sw, f, ef⟩
    have ef' : v = sl u 5 f := ef
    subst ef'
    show PX7_look_R_L11 h s post (n + 1) (nI q) (nI S) w (sl u 5 f)
    unfold PX7_look_R_L11
    rw [e4]
    refine br_t (Int32.le_refl _) ?_
    rintro _ rfl _ rfl _ rfl _ rfl
    rw [mk_cl S (by omega)]
    exact cp_lookloop_R (rt := fun t => ratS (some u) h s q t) hq hS e4 (w0 := si (si (si w 3 0) 4 0) 5 0) iw rfl rfl rfl (fun w' a b => hp w' f a b)
  · rintro n i ⟨w, v⟩ hi ⟨iw, sw, f, ef⟩ next
    have ef' : v = sl u 5 f := ef
    subst ef'
    show PX7_look_R_L11 h s post (n + 1) (nI q) (nI i) w (sl u 5 f)
    unfold PX7_look_R_L11
    rw [e4]
    refine br_f (fr_nle hi (by omega)) (cp_rate_R hq (by omega) sw (RuleOk_sl ok) (fun g' f' sw' => ⟨vp_in_q (by omega) (by omega), ?_⟩))
    rw [nI_31 (show i < 1000 by omega), rat_sl, sl_sl]
    rintro _ rfl _ rfl
    rw [nI_1]
    refine next (_, _) ⟨fun t ht => ?_, sw', f', rfl⟩
    show (sl (sl w 0 g') 1 (vp_updL ((sl w 0 g').2.2 1) i (ratS (some u) h s q i))).2.2 1 t = _
    rw [sl_at]
    by_cases e : t = i
    · rw [e, updL_eq]
    · rw [updL_ne _ _ e]
      exact iw t (by omega)
/-- the reference after looking -/
def LkM (x : LK) (m : OV) : Prop := m.1 53 = nI x.2.1 ∧ m.1 54 = x.2.2.2.1 ∧ ∀ j, j < x.2.1 → m.2.1 51 j = x.2.2.1 j
theorem mk_ml : ∀ S, S < 11 → itn (fun t l => l ||| ((1 : Int32) <<< (nI t &&& 31))) S 0 = nI (2 ^ S - 1) := by decide +kernel
theorem mp_laysLooking {m h s : OV} {S T Q K d e q : Nat} {ρ : Option OV} (lim : Lim S T Q K) (hv : Hv h S Q) (so : Sok s S Q d e) (hr : HRel h S T Q K m) (sr : SRel s S T Q m) (ru : RuR ρ m) (hq : q < Q) {post : Int32 → OV → Prop} (hp : ∀ m', Fr [53, 54] [51] [] [48, 49, 52] m m' → LkM (lookS ρ h s q S) m' → post (fndS (lookS ρ h s q S)) m') : PX9_laysLooking m (nI q) post := by
  have l1 : S ≤ 10 := lim.1
  have l3 : Q ≤ 4 := lim.2.2.1
  unfold PX9_laysLooking
  refine fr_rel (fun n i (p : Int32 × OV) => PX9_laysLooking_L4 post n (nI q) p.1 (nI i) p.2) (fun i p => p.1 = itn (fun t l => l ||| ((1 : Int32) <<< (nI t &&& 31))) i 0 ∧ Fr [53, 54] [51] [] [48, 49, 52] m p.2 ∧ ∀ t, t < i → p.2.2.2 52 t = ratS ρ h s q t) S (0, m) ⟨rfl, Fr_refl, fun t ht => absurd ht (Nat.not_lt_zero t)⟩ ?_ ?_
  · rintro n ⟨left, m1⟩ ⟨el, fr, es⟩
    have el' : left = nI (2 ^ S - 1) := Eq.trans el (mk_ml S (by omega))
    subst el'
    show PX9_laysLooking_L4 post (n + 1) (nI q) (nI (2 ^ S - 1)) (nI S) m1
    have i3 : m1.2.1 1 ((3 : Int32)).toNatClampNeg = nI S := (fr.2.2.1 3 (by decide)).trans hr.1.2.2.1
    unfold PX9_laysLooking_L4
    rw [i3]
    refine br_t (Int32.le_refl _) ?_
    rintro _ rfl _ rfl
    -- the outer loop
    refine fr_rel (fun n i (p : Int32 × OV) => PX9_laysLooking_L48 post n (nI q) p.1 p.2) (fun i p => p.1 = (lkN (fun t => ratS ρ h s q t) h s q S i).1 ∧ LkI S i (lkN (fun t => ratS ρ h s q t) h s q S i) ∧ LkM (lkN (fun t => ratS ρ h s q t) h s q S i) p.2 ∧ Fr [53, 54] [51] [] [48, 49, 52] m p.2 ∧ ∀ t, t < S → p.2.2.2 52 t = ratS ρ h s q t) S (nI (2 ^ S - 1), si (si m1 53 0) 54 0) ?_ ?_ ?_
    · exact ⟨rfl, LkI_0 l1, ⟨rfl, rfl, fun j hj => absurd hj (Nat.not_lt_zero j)⟩, Fr_si (by decide) (Fr_si (by decide) fr), es⟩
    · rintro n ⟨left, m2⟩ ⟨el, li, lm, fr2, es2⟩
      show PX9_laysLooking_L48 post (n + 1) (nI q) left m2
      unfold PX9_laysLooking_L48
      obtain ⟨e0, e1, L, hL, e2, e3⟩ := li
      have z : L = 0 := (mk_z L (mk_le hL l1)).1 (by omega)
      refine br_t (show left = 0 by rw [show left = _ from el, e2, z]; rfl) ?_
      have := hp m2 fr2 lm
      unfold fndS lookS at this
      rw [if_neg (by rw [e0]; decide)] at this
      exact this
    · rintro n i ⟨left, m2⟩ hi ⟨el, li, lm, fr2, es2⟩ next
      show PX9_laysLooking_L48 post (n + 1) (nI q) left m2
      unfold PX9_laysLooking_L48
      have li' := li
      obtain ⟨e0, e1, L, hL, e2, e3⟩ := li'
      have el' : left = (lkN (fun t => ratS ρ h s q t) h s q S i).1 := el
      have nz : ¬ left = 0 := by
        rw [el', e2]
        intro e
        have : L = 0 := nI_inj (by have := mk_le hL l1; rcases Nat.lt_or_ge L 1000 with c | c; exact c; exact absurd e (nI_ne0 (by omega) (by omega))) (by omega) e
        rw [this] at e3
        have : pcN 0 = 0 := by decide
        omega
      refine br_f nz ?_
      have g3 : m2.2.1 1 ((3 : Int32)).toNatClampNeg = nI S := (fr2.2.2.1 3 (by decide)).trans hr.1.2.2.1
      have g7 : m2.2.1 1 ((7 : Int32)).toNatClampNeg = s.1 2 := (fr2.2.2.1 7 (by decide)).trans sr.1.2.1
      obtain ⟨t, ht, eb, nx⟩ := LkI_s (rt := fun t => ratS ρ h s q t) (h := h) (s := s) (q := q) l1 hi li
      refine fr_loop (fun n2 j b => PX9_laysLooking_L57 (PX9_laysLooking_L48 post n) post n2 (nI q) left b (nI j) m2) (bst1 (fun t => ratS ρ h s q t) left) S (-1) ?_ ?_
      · intro n2
        have eb' : itn (bst1 (fun t => ratS ρ h s q t) left) S (-1) = nI t := by
          have : bstS (fun t => ratS ρ h s q t) left S = nI t := by rw [el']; exact eb
          exact this
        rw [eb']
        unfold PX9_laysLooking_L57
        rw [g3]
        refine br_t (Int32.le_refl _) ?_
        have hr2 := HRel_fr fr2 (by decide) (by decide) hr
        have sr2 := SRel_fr fr2 (by decide) (by decide) sr
        refine mp_minutes (h := h) (s := s) (by omega) (by omega) (hr2.2.1 t ht).2.1 (hr2.2.2.1 q hq).1 (sr2.2.1 t ht) ⟨vp_in_q (by omega) (by omega), ?_⟩
        obtain ⟨l3', l4', lj⟩ := lm
        have l3'' : m2.1 53 = nI (lkN (fun t => ratS ρ h s q t) h s q S i).2.1 := l3'
        have l4'' : m2.1 54 = (lkN (fun t => ratS ρ h s q t) h s q S i).2.2.2.1 := l4'
        have kk : (lkN (fun t => ratS ρ h s q t) h s q S i).2.1 = i := li.2.1
        rw [nI_31 (show q < 1000 by omega), (hr2.2.2.1 q hq).2.1, l4'']
        have ess := lk_succ (fun t => ratS ρ h s q t) h s q S i
        unfold lk1 at ess
        rw [if_pos e0, eb, nI_31 (show t < 1000 by omega)] at ess
        have nx' := nx (lkN (fun t => ratS ρ h s q t) h s q S (i + 1)) (lk_succ (fun t => ratS ρ h s q t) h s q S i)
        by_cases c : (lkN (fun t => ratS ρ h s q t) h s q S i).2.2.2.1 + minS h s q t ≤ h.2.1 13 q
        · rw [if_pos c] at ess
          refine br_t c ?_
          rintro _ rfl _ rfl
          rw [show (si m2 54 ((lkN (fun t => ratS ρ h s q t) h s q S i).2.2.2.1 + minS h s q t)).1 53 = m2.1 53 from rfl, l3'', kk, nI_31 (show i < 1000 by omega)]
          refine ⟨vp_in_q (by omega) (by omega), ?_⟩
          rintro _ rfl
          rintro _ rfl _ rfl _ rfl
          have fr3 : Fr [53, 54] [51] [] [48, 49, 52] m (si (sa (si m2 54 ((lkN (fun t => ratS ρ h s q t) h s q S i).2.2.2.1 + minS h s q t)) 51 (upd ((si m2 54 ((lkN (fun t => ratS ρ h s q t) h s q S i).2.2.2.1 + minS h s q t)).2.1 51) i (nI t))) 53 (nI (i + 1))) := Fr_si (by decide) (Fr_sa (by decide) (by decide) (Fr_si (by decide) fr2))
          have e53 : (sa (si m2 54 ((lkN (fun t => ratS ρ h s q t) h s q S i).2.2.2.1 + minS h s q t)) 51 (upd ((si m2 54 ((lkN (fun t => ratS ρ h s q t) h s q S i).2.2.2.1 + minS h s q t)).2.1 51) i (nI t))).1 53 + 1 = nI (i + 1) := by
            show m2.1 53 + 1 = _
            rw [l3'', kk, nI_1]
          rw [e53]
          have lm3 : ∀ fl, LkM (left &&& (((1 : Int32) <<< (nI t &&& 31)) ^^^ (-1)), i + 1, upd (lkN (fun t => ratS ρ h s q t) h s q S i).2.2.1 i (nI t), (lkN (fun t => ratS ρ h s q t) h s q S i).2.2.2.1 + minS h s q t, fl) (si (sa (si m2 54 ((lkN (fun t => ratS ρ h s q t) h s q S i).2.2.2.1 + minS h s q t)) 51 (upd ((si m2 54 ((lkN (fun t => ratS ρ h s q t) h s q S i).2.2.2.1 + minS h s q t)).2.1 51) i (nI t))) 53 (nI (i + 1))) := by
            intro fl
            refine ⟨rfl, rfl, fun j hj => ?_⟩
            have hj' : j < i + 1 := hj
            show upd (m2.2.1 51) i (nI t) j = upd (lkN (fun t => ratS ρ h s q t) h s q S i).2.2.1 i (nI t) j
            by_cases e : j = i
            · rw [e, upd_eq, upd_eq]
            · rw [upd_ne _ _ e, upd_ne _ _ e]
              exact lj j (by omega)
          rw [kk, ← el'] at ess
          rw [show (si (sa (si m2 54 ((lkN (fun t => ratS ρ h s q t) h s q S i).2.2.2.1 + minS h s q t)) 51 (upd ((si m2 54 ((lkN (fun t => ratS ρ h s q t) h s q S i).2.2.2.1 + minS h s q t)).2.1 51) i (nI t))) 53 (nI (i + 1))).2.1 1 ((7 : Int32)).toNatClampNeg = s.1 2 from g7]
          by_cases dd : nI t = s.1 2
          · rw [if_pos dd] at ess
            refine br_nt dd ?_
            have ef : lkN (fun t => ratS ρ h s q t) h s q S S = lkN (fun t => ratS ρ h s q t) h s q S (i + 1) := lk_end (by rw [ess]; show (1 : Nat) ≠ 0; decide) (by omega)
            have := hp _ fr3 (by unfold lookS; rw [ef, ess]; exact lm3 1)
            unfold fndS lookS at this
            rw [ef, ess, if_pos rfl] at this
            exact this
          · rw [if_neg dd] at ess
            refine br_nf dd ?_
            refine next (left &&& (((1 : Int32) <<< (nI t &&& 31)) ^^^ (-1)), _) ⟨by rw [ess], nx' (by rw [ess]), by rw [ess]; exact lm3 0, fr3, es2⟩
        · rw [if_neg c] at ess
          refine br_f c ?_
          have ef : lkN (fun t => ratS ρ h s q t) h s q S S = lkN (fun t => ratS ρ h s q t) h s q S (i + 1) := lk_end (by rw [ess]; show (2 : Nat) ≠ 0; decide) (by omega)
          have := hp m2 fr2 (by unfold lookS; rw [ef, ess]; exact ⟨l3', l4', lj⟩)
          unfold fndS lookS at this
          rw [ef, ess, if_neg (by show ¬ (2 : Nat) = 1; decide)] at this
          exact this
      · intro n2 j hj hw
        have hb : itn (bst1 (fun t => ratS ρ h s q t) left) j (-1) = -1 ∨ ∃ t, t < j ∧ itn (bst1 (fun t => ratS ρ h s q t) left) j (-1) = nI t := bst_ix (fun t => ratS ρ h s q t) left j
        generalize itn (bst1 (fun t => ratS ρ h s q t) left) j (-1) = b at hb hw ⊢
        unfold bst1 at hw
        rw [← nI_1] at hw
        unfold PX9_laysLooking_L57
        rw [g3]
        refine br_f (fr_nle hj (by omega)) (mp_has ?_)
        rw [nI_31 (show j < 1000 by omega)]
        by_cases c : bt1 left j = 1
        · rw [if_pos c] at hw
          rw [c]
          refine br_f (by decide) ?_
          by_cases d : b = -1
          · rw [if_pos d] at hw
            refine br_t d ?_
            rintro _ rfl
            exact hw
          · rw [if_neg d] at hw
            obtain ⟨t', ht', rfl⟩ := hb.resolve_left d
            rw [nI_31 (show t' < 1000 by omega)] at hw ⊢
            rw [es2 j hj, es2 t' (by omega)]
            refine br_f d ⟨vp_in_q (by omega) (by omega), vp_in_q (by omega) (by omega), ?_⟩
            refine br_if (post := fun z => PX9_laysLooking_L57 (PX9_laysLooking_L48 post n) post n2 (nI q) left z (nI j + 1) m2) (fun _ h => ?_) (fun _ h => ?_) hw
            · rintro _ rfl
              exact h
            · rintro _ rfl
              exact h
        · rw [if_neg c] at hw
          rw [bt1_n1 c]
          refine br_t rfl ?_
          rintro _ rfl
          exact hw
  · rintro n i ⟨left, m1⟩ hi ⟨el, fr, es⟩ next
    show PX9_laysLooking_L4 post (n + 1) (nI q) left (nI i) m1
    have i3 : m1.2.1 1 ((3 : Int32)).toNatClampNeg = nI S := (fr.2.2.1 3 (by decide)).trans hr.1.2.2.1
    unfold PX9_laysLooking_L4
    rw [i3]
    refine br_f (fr_nle hi (by omega)) ?_
    refine mp_sumOf lim hv so (HRel_fr fr (by decide) (by decide) hr) (SRel_fr fr (by decide) (by decide) sr) (RuR_fr fr (by decide) (by decide) ru) hq hi (fun m' fr' => ⟨vp_in_q (by omega) (by omega), ?_⟩)
    rw [nI_31 (show i < 1000 by omega)]
    rintro _ rfl _ rfl _ rfl
    rw [nI_1]
    refine next (_, _) ⟨?_, Fr_sl (by decide) (Fr_trans fr (Fr_mono fr' (by decide) (by decide) (by decide) (by decide))), fun t ht => ?_⟩
    · show left ||| ((1 : Int32) <<< (nI i &&& 31)) = itn (fun t l => l ||| ((1 : Int32) <<< (nI t &&& 31))) (i + 1) 0
      rw [show left = _ from el]
      rfl
    · show (sl m' 52 (vp_updL (m'.2.2 52) i (ratS ρ h s q i))).2.2 52 t = _
      rw [sl_at]
      by_cases e : t = i
      · rw [e, updL_eq]
      · rw [updL_ne _ _ e, fr'.2.2.2 52 (by decide)]
        exact es t (by omega)
