/-! 80: gone, hint -/
/-- ODDS of stones that nobody tried -/
def utS (h s : OV) (n : Nat) : Int32 := itn (fun t x => x + (if tbS (s.2.1 8) t 4 = 0 then h.2.1 7 t else 0)) n 0
theorem ut_nat {h s : OV} : ∀ n, (∀ t, t < n → isIx (h.2.1 7 t) 10) → ∃ B, B ≤ 9 * n ∧ utS h s n = nI B
  | 0, _ => ⟨0, by omega, rfl⟩
  | n + 1, hz => by
    obtain ⟨B, hB, e⟩ := ut_nat (s := s) n (fun t ht => hz t (by omega))
    obtain ⟨k, hk, ek⟩ := hz n (by omega)
    show ∃ B, B ≤ 9 * (n + 1) ∧ utS h s n + (if tbS (s.2.1 8) n 4 = 0 then h.2.1 7 n else 0) = nI B
    rw [e]
    split
    · exact ⟨B + k, by omega, by rw [ek, nI_add]⟩
    · exact ⟨B, by omega, Int32.add_zero _⟩
theorem sim_gone {n : Nat} {t c h s m : OV} {pp pr : Nat → OV} {im : Nat → Option IMG} {y : Int32} (sim : Sim t c h s pp pr n im m) : PX8_gone t c h s y (fun r => PX9_gone m y (fun r' => r = r')) := by
  obtain ⟨⟨S, T, Q, K, d, w0⟩, tap, rl, mi, ims⟩ := sim
  obtain ⟨hok, hv, hr, so, hd, sr, td, nm, fc, dw, ps⟩ := w0
  have lim := hok.1
  have l1 := lim.1
  have l3 := lim.2.2.1
  unfold PX8_gone
  refine cp_isTold hv ?_
  by_cases A : h.1 0 = 1 ∧ isIx y 2
  · rw [zb_t A]
    have tn : ¬ h.1 0 = 0 := (told_iff hv).mpr A.1
    have yp : y = 0 ∨ y = 1 := by
      obtain ⟨k, hk, ek⟩ := A.2
      have : k = 0 ∨ k = 1 := by omega
      rcases this with rfl | rfl
      · exact Or.inl ek
      · exact Or.inr ek
    obtain ⟨B, hB, eB⟩ := sm_nat (f := h.2.1 7) S (fun t ht => (hv.1 t ht).2.2)
    obtain ⟨U, hU, eU⟩ := ut_nat (h := h) (s := s) S (fun t ht => (hv.1 t ht).2.2)
    obtain ⟨l, hl, el⟩ := hv.2.2.2.2.1
    have b1 : l * B ≤ 99 * 90 := Nat.mul_le_mul (by omega) (by omega)
    have b2 : (100 - l) * U ≤ 100 * 90 := Nat.mul_le_mul (by omega) (by omega)
    have e100 : (100 : Int32) - nI l = nI (100 - l) := by rw [show (100 : Int32) = nI 100 from rfl, pk_sub (by omega)]
    refine br_nf (by decide) ?_
    refine fr_loop (fun k i (p : Int32 × Int32) => PX8_gone_L17 t c h s _ k y p.1 p.2 (nI i)) (fun t p => (p.1 + h.2.1 7 t, p.2 + (if tbS (s.2.1 8) t 4 = 0 then h.2.1 7 t else 0))) S (0, 0) ?_ ?_
    · intro k
      have key : ∀ i, itn (fun t (p : Int32 × Int32) => (p.1 + h.2.1 7 t, p.2 + (if tbS (s.2.1 8) t 4 = 0 then h.2.1 7 t else 0))) i (0, 0) = (smS (h.2.1 7) i, utS h s i) := by
        intro i
        induction i with
        | zero => rfl
        | succ i ih =>
          show (fun t (p : Int32 × Int32) => (p.1 + h.2.1 7 t, p.2 + (if tbS (s.2.1 8) t 4 = 0 then h.2.1 7 t else 0))) i (itn _ i (0, 0)) = _
          rw [ih]
          rfl
      rw [key S]
      show PX8_gone_L17 t c h s _ (k + 1) y (smS (h.2.1 7) S) (utS h s S) (nI S)
      unfold PX8_gone_L17
      rw [hok.2.1, eB, eU, el, e100]
      refine br_t (Int32.le_refl _) ?_
      rw [nI_mul, nI_mul]
      rintro _ rfl _ rfl
      rw [nI_add]
      refine cp_lowest (by omega) (by omega) ?_
      unfold PX9_gone
      refine mp_isHill hv hr (br_f tn (mp_inC 2 (by omega) (by decide) ?_))
      rw [zb_t A.2]
      refine br_nf (by decide) ?_
      refine fr_loop (fun k i x => PX9_gone_L23 m _ k y x (nI i)) (fun t x => x + (if tbS (s.2.1 8) t 4 = 0 then h.2.1 7 t else 0)) S 0 ?_ ?_
      · intro k
        rw [show itn (fun t x => x + (if tbS (s.2.1 8) t 4 = 0 then h.2.1 7 t else 0)) S 0 = nI U from eU]
        unfold PX9_gone_L23
        rw [show m.2.1 1 ((3 : Int32)).toNatClampNeg = nI S from hr.1.2.2.1, show m.2.1 1 ((2 : Int32)).toNatClampNeg = nI l from hr.1.2.1.trans el, e100]
        refine br_t (Int32.le_refl _) (mp_allOdds lim hr ?_)
        rw [eB, nI_mul, nI_mul]
        rintro _ rfl
        rw [nI_add]
        exact mp_fraction (by omega) (by omega) yp rfl
      · intro k i hi hw
        unfold PX9_gone_L23 PX9_gone_b52
        rw [show m.2.1 1 ((3 : Int32)).toNatClampNeg = nI S from hr.1.2.2.1, nI_31 (show i < 1000 by omega), (hr.2.1 i hi).2.2]
        refine br_f (fr_nle hi (by omega)) (mp_whoTried l3 hr.1.2.2.2.2.1 ?_)
        rw [tbS_congr (g := s.2.1 8) (fun q hq => (sr.2.2.2 q hq).2.2.2), ← tbS_4 l3 (by omega) (fun q a b => (so.2.2.2.2.2 q a b).2)]
        rw [← nI_1] at hw
        refine br_ifn (post := fun z => PX9_gone_L23 m _ k y (_ + z) (nI i + 1)) (fun _ h => ⟨vp_in_q (by omega) (by omega), ?_⟩) (fun _ h => ?_) hw
        · rintro _ rfl _ rfl
          exact h
        · rintro _ rfl _ rfl
          exact h
    · intro k i hi hw
      generalize itn (fun t (p : Int32 × Int32) => (p.1 + h.2.1 7 t, p.2 + (if tbS (s.2.1 8) t 4 = 0 then h.2.1 7 t else 0))) i (0, 0) = p at hw ⊢
      have hw' : PX8_gone_L17 t c h s (fun r => PX9_gone m y (fun r' => r = r')) k y (p.1 + h.2.1 7 i) (p.2 + (if tbS (s.2.1 8) i 4 = 0 then h.2.1 7 i else 0)) (nI (i + 1)) := hw
      rw [← nI_1] at hw'
      unfold PX8_gone_L17
      rw [hok.2.1, nI_31 (show i < 1000 by omega)]
      refine br_f (fr_nle hi (by omega)) ⟨vp_in_q (by omega) (by omega), ?_⟩
      rintro _ rfl
      refine cp_triedBy ?_
      refine br_ifn (post := fun z => PX8_gone_L17 t c h s (fun r => PX9_gone m y (fun r' => r = r')) k y (p.1 + h.2.1 7 i) (p.2 + z) (nI i + 1)) (fun _ h => ⟨vp_in_q (by omega) (by omega), ?_⟩) (fun _ h => ?_) hw'
      · rintro _ rfl _ rfl
        exact h
      · rintro _ rfl
        rw [Int32.add_zero] at h
        exact h
  · rw [zb_f A]
    refine br_nt rfl ?_
    unfold PX9_gone
    refine mp_isHill hv hr (br_c (fun _ => rfl) (fun e => mp_inC 2 (by omega) (by decide) ?_))
    rw [zb_f (fun q => A ⟨(told_iff hv).mp e, q⟩)]
    exact br_nt rfl rfl
/-! hint -/
def loS (h : OV) (f : Int32) (n : Nat) : Int32 := itn (fun t x => x + (if f ≤ h.2.1 5 t then 0 else h.2.1 7 t)) n 0
def hiS (h : OV) (f : Int32) (n : Nat) : Int32 := itn (fun t x => x + (if f ≤ h.2.1 5 t then h.2.1 7 t else 0)) n 0
theorem lo_hi (h : OV) (f : Int32) : ∀ n, loS h f n + hiS h f n = smS (h.2.1 7) n
  | 0 => rfl
  | n + 1 => by
    show (loS h f n + (if f ≤ h.2.1 5 n then 0 else h.2.1 7 n)) + (hiS h f n + (if f ≤ h.2.1 5 n then h.2.1 7 n else 0)) = smS (h.2.1 7) n + h.2.1 7 n
    rw [← lo_hi h f n]
    split
    · rw [Int32.add_zero, Int32.add_assoc]
    · rw [Int32.add_zero, Int32.add_assoc, Int32.add_comm (h.2.1 7 n), ← Int32.add_assoc]
theorem hi_eq (h : OV) (f : Int32) (n : Nat) : smS (h.2.1 7) n - loS h f n = hiS h f n := by
  rw [← lo_hi h f n, Int32.add_comm, Int32.add_sub_cancel]
def grS (h : OV) (S : Nat) (f : Int32) : Int32 := if loS h f S < hiS h f S then hiS h f S else loS h f S
theorem cp_greater {h : OV} {S : Nat} {f : Int32} (l1 : S ≤ 10) (e4 : h.1 4 = nI S) {post : Int32 → Prop} (hp : post (grS h S f)) : PX0_greaterPart h f post := by
  unfold PX0_greaterPart
  refine fr_loop (fun n i (p : Int32 × Int32) => PX0_greaterPart_L7 h post n f p.1 p.2 (nI i)) (fun t p => (p.1 + (if f ≤ h.2.1 5 t then 0 else h.2.1 7 t), p.2 + (if f ≤ h.2.1 5 t then h.2.1 7 t else 0))) S (0, 0) ?_ ?_
  · intro n
    have key : ∀ i, itn (fun t (p : Int32 × Int32) => (p.1 + (if f ≤ h.2.1 5 t then 0 else h.2.1 7 t), p.2 + (if f ≤ h.2.1 5 t then h.2.1 7 t else 0))) i (0, 0) = (loS h f i, hiS h f i) := by
      intro i
      induction i with
      | zero => rfl
      | succ i ih =>
        show (fun t (p : Int32 × Int32) => (p.1 + (if f ≤ h.2.1 5 t then 0 else h.2.1 7 t), p.2 + (if f ≤ h.2.1 5 t then h.2.1 7 t else 0))) i (itn _ i (0, 0)) = _
        rw [ih]
        rfl
    rw [key S]
    show PX0_greaterPart_L7 h post (n + 1) f (loS h f S) (hiS h f S) (nI S)
    unfold PX0_greaterPart_L7
    rw [e4]
    exact br_t (Int32.le_refl _) hp
  · intro n i hi hw
    generalize itn (fun t (p : Int32 × Int32) => (p.1 + (if f ≤ h.2.1 5 t then 0 else h.2.1 7 t), p.2 + (if f ≤ h.2.1 5 t then h.2.1 7 t else 0))) i (0, 0) = p at hw ⊢
    have hw' : PX0_greaterPart_L7 h post n f (p.1 + (if f ≤ h.2.1 5 i then 0 else h.2.1 7 i)) (p.2 + (if f ≤ h.2.1 5 i then h.2.1 7 i else 0)) (nI (i + 1)) := hw
    rw [← nI_1] at hw'
    unfold PX0_greaterPart_L7
    rw [e4, nI_31 (show i < 1000 by omega)]
    refine br_f (fr_nle hi (by omega)) ⟨vp_in_q (by omega) (by omega), br_c (fun g => ⟨vp_in_q (by omega) (by omega), ?_⟩) (fun g => ⟨vp_in_q (by omega) (by omega), ?_⟩)⟩
    · rw [if_pos g, if_pos g, Int32.add_zero] at hw'
      rintro _ rfl _ rfl
      exact hw'
    · rw [if_neg g, if_neg g, Int32.add_zero] at hw'
      rintro _ rfl _ rfl
      exact hw'
/-- the first FEET of the least greater part, of 1 .. i + 1 -/
def hn1 (h : OV) (S : Nat) (i : Nat) (p : Int32 × Int32) : Int32 × Int32 := if p.2 ≤ grS h S (nI (i + 2)) then p else (nI (i + 2), grS h S (nI (i + 2)))
def hnS (h : OV) (S i : Nat) : Int32 × Int32 := itn (hn1 h S) i (1, grS h S 1)
theorem hn_pos (h : OV) (S : Nat) : ∀ i, i < 1000 → ¬ (hnS h S i).1 = 0
  | 0, _ => by
    show ¬ (1 : Int32) = 0
    decide
  | i + 1, hi => by
    show ¬ (hn1 h S i (hnS h S i)).1 = 0
    unfold hn1
    split
    · exact hn_pos h S i (by omega)
    · exact nI_ne0 (by omega) (by omega)
theorem sim_hint {n : Nat} {t c h s m : OV} {pp pr : Nat → OV} {im : Nat → Option IMG} {y : Int32} (sim : Sim t c h s pp pr n im m) : PX8_hint t c h y (fun r => PX9_hint m y (fun r' => r = r')) := by
  obtain ⟨⟨S, T, Q, K, d, w0⟩, tap, rl, mi, ims⟩ := sim
  obtain ⟨hok, hv, hr, so, hd, sr, td, nm, fc, dw, ps⟩ := w0
  have lim := hok.1
  have l1 := lim.1
  unfold PX8_hint
  refine cp_isTold hv ?_
  by_cases A : h.1 0 = 1 ∧ isIx y 2
  · rw [zb_t A]
    have tn : ¬ h.1 0 = 0 := (told_iff hv).mpr A.1
    refine br_nf (by decide) (cp_greater l1 hok.2.1 ?_)
    refine fr_loop (fun k i (p : Int32 × Int32) => PX8_hint_L27 t c h _ k y p.1 p.2 (nI (i + 2))) (hn1 h S) 98 (1, grS h S 1) ?_ ?_
    · intro k
      rw [show itn (hn1 h S) 98 (1, grS h S 1) = hnS h S 98 from rfl]
      unfold PX8_hint_L27
      have ref : ∀ post : Int32 → Prop, ((¬ y = 0 → post (hnS h S 98).2) ∧ (y = 0 → post (hnS h S 98).1)) → PX9_hint m y post := by
        intro post hp
        unfold PX9_hint
        refine mp_isHill hv hr (br_f tn (mp_inC 2 (by omega) (by decide) ?_))
        rw [zb_t A.2]
        refine br_nf (by decide) (mp_allOdds lim hr ?_)
        refine fr_rel (fun k i (p : Int32 × Int32) => PX9_hint_L32 m post k y (smS (h.2.1 7) S) p.1 p.2 (nI (i + 1))) (fun i p => (i = 0 ∧ p.1 = 0) ∨ ∃ j, i = j + 1 ∧ p = hnS h S j) 99 (0, 0) (Or.inl ⟨rfl, rfl⟩) ?_ ?_
        · rintro k ⟨a, b⟩ cs
          show PX9_hint_L32 m post (k + 1) y (smS (h.2.1 7) S) a b (nI 100)
          rcases cs with ⟨e, _⟩ | ⟨j, ej, ep⟩
          · exact absurd e (by omega)
          · have : j = 98 := by omega
            subst this
            unfold PX9_hint_L32
            have e1 : a = (hnS h S 98).1 := congrArg Prod.fst ep
            have e2 : b = (hnS h S 98).2 := congrArg Prod.snd ep
            rw [e1, e2]
            exact br_t (nI_lt (a := 99) (by omega) (by omega)) hp
        · rintro k i ⟨a, b⟩ hi cs next
          show PX9_hint_L32 m post (k + 1) y (smS (h.2.1 7) S) a b (nI (i + 1))
          unfold PX9_hint_L32
          refine br_f (nI_nlt (b := i + 1) (a := 99) (by omega) (by omega)) ?_
          refine fr_loop (fun k2 j x => PX9_hint_L45 m (PX9_hint_L32 m post k) post k2 y (smS (h.2.1 7) S) a b (nI (i + 1)) x (nI j)) (fun t x => x + (if nI (i + 1) ≤ h.2.1 5 t then 0 else h.2.1 7 t)) S 0 ?_ ?_
          · intro k2
            rw [show itn (fun t x => x + (if nI (i + 1) ≤ h.2.1 5 t then 0 else h.2.1 7 t)) S 0 = loS h (nI (i + 1)) S from rfl]
            unfold PX9_hint_L45
            rw [show m.2.1 1 ((3 : Int32)).toNatClampNeg = nI S from hr.1.2.2.1, hi_eq]
            refine br_t (Int32.le_refl _) ?_
            have b108 : PX9_hint_b108 m (PX9_hint_L32 m post k) post (grS h S (nI (i + 1))) y (smS (h.2.1 7) S) a b (nI (i + 1)) := by
              unfold PX9_hint_b108 PX9_hint_b121
              rw [nI_1]
              rcases cs with ⟨e, e0⟩ | ⟨j, ej, ep⟩
              · subst e
                refine br_t e0 ?_
                rintro _ rfl
                exact next (nI 1, grS h S (nI 1)) (Or.inr ⟨0, rfl, rfl⟩)
              · subst ej
                have e1 : a = (hnS h S j).1 := congrArg Prod.fst ep
                have e2 : b = (hnS h S j).2 := congrArg Prod.snd ep
                rw [e1, e2]
                have st : hnS h S (j + 1) = hn1 h S j (hnS h S j) := rfl
                unfold hn1 at st
                refine br_f (hn_pos h S j (by omega)) (br_c (fun g => ?_) (fun g => ?_))
                · rw [if_pos g] at st
                  rintro _ rfl
                  exact next ((hnS h S j).1, (hnS h S j).2) (Or.inr ⟨j + 1, rfl, st.symm⟩)
                · rw [if_neg g] at st
                  rintro _ rfl
                  exact next (nI (j + 1 + 1), grS h S (nI (j + 1 + 1))) (Or.inr ⟨j + 1, rfl, st.symm⟩)
            have gr : grS h S (nI (i + 1)) = if loS h (nI (i + 1)) S < hiS h (nI (i + 1)) S then hiS h (nI (i + 1)) S else loS h (nI (i + 1)) S := rfl
            refine br_c (fun g => ?_) (fun g => ?_)
            · have eg : grS h S (nI (i + 1)) = hiS h (nI (i + 1)) S := by
                rw [gr]
                by_cases g2 : loS h (nI (i + 1)) S < hiS h (nI (i + 1)) S
                · rw [if_pos g2]
                · rw [if_neg g2]
                  exact Int32.le_antisymm g (Int32.not_lt.mp g2)
              rw [← eg]
              exact b108
            · have eg : grS h S (nI (i + 1)) = loS h (nI (i + 1)) S := by
                rw [gr, if_neg (fun y => g (Int32.le_of_lt y))]
              rw [← eg]
              exact b108
          · intro k2 j hj hw
            unfold PX9_hint_L45 PX9_hint_b81
            rw [show m.2.1 1 ((3 : Int32)).toNatClampNeg = nI S from hr.1.2.2.1, nI_31 (show j < 1000 by omega), (hr.2.1 j hj).1, (hr.2.1 j hj).2.2]
            rw [← nI_1 j] at hw
            refine br_f (fr_nle hj (by omega)) ⟨vp_in_q (by omega) (by omega), ?_⟩
            refine br_if (post := fun z => PX9_hint_L45 m (PX9_hint_L32 m post k) post k2 y (smS (h.2.1 7) S) a b (nI (i + 1)) (_ + z) (nI j + 1)) (fun _ h => ?_) (fun _ h => ⟨vp_in_q (by omega) (by omega), ?_⟩) hw
            · rintro _ rfl _ rfl
              exact h
            · rintro _ rfl _ rfl
              exact h
      exact br_t (nI_lt (a := 99) (b := 100) (by omega) (by omega)) (br_nc (fun e => ref _ (br_nf e rfl)) (fun e => ref _ (br_nt e rfl)))
    · intro k i hi hw
      generalize itn (hn1 h S) i (1, grS h S 1) = p at hw ⊢
      unfold hn1 at hw
      unfold PX8_hint_L27
      refine br_f (nI_nlt (b := i + 2) (a := 99) (by omega) (by omega)) (cp_greater l1 hok.2.1 ?_)
      rw [nI_1]
      refine br_c (fun g => ?_) (fun g => ?_)
      · rw [if_pos g] at hw
        rintro _ rfl
        exact hw
      · rw [if_neg g] at hw
        rintro _ rfl
        exact hw
  · rw [zb_f A]
    refine br_nt rfl ?_
    unfold PX9_hint
    refine mp_isHill hv hr (br_c (fun _ => rfl) (fun e => mp_inC 2 (by omega) (by decide) ?_))
    rw [zb_f (fun q => A ⟨(told_iff hv).mp e, q⟩)]
    exact br_nt rfl rfl
