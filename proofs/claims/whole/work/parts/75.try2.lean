/-! 75: trials: first, hiding, wanders, shows -/
theorem lf_found {ρ : Option OV} {h s : OV} {S T q : Nat} : (lfS ρ h S T q s).2.1 6 = (if (lookS ρ h s q S).2.2.2.2 = 1 then upd (s.2.1 6) q (s.1 0) else s.2.1 6) ∧ (lfS ρ h S T q s).1 0 = s.1 0 := by
  have same := trS_same (s := s) (q := q) (x := lookS ρ h s q S) (lookS ρ h s q S).2.1
  have sw6 : ∀ y : OV, (swS y T q).2.1 6 = y.2.1 6 := by
    intro y
    unfold swS
    split
    · rfl
    · split
      · rfl
      · rfl
  have pb6 : ∀ sh (y : OV), (pbS S sh y).2.1 6 = y.2.1 6 ∧ (pbS S sh y).1 0 = y.1 0 := by
    intro sh y
    unfold pbS
    split
    · split
      · exact ⟨rfl, rfl⟩
      · exact ⟨rfl, rfl⟩
    · split
      · split
        · exact ⟨rfl, rfl⟩
        · exact ⟨rfl, rfl⟩
      · exact ⟨rfl, rfl⟩
  unfold lfS
  by_cases c : (lookS ρ h s q S).2.2.2.2 = 1
  · rw [if_pos c, if_pos c, (pb6 _ _).1, (pb6 _ _).2, sw6, sa_at, sw_tin]
    refine ⟨?_, ?_⟩
    · rw [same.1, same.2]
    · show (trS (lookS ρ h s q S) q (lookS ρ h s q S).2.1 s).1 0 = _
      rw [same.1]
  · rw [if_neg c, if_neg c]
    refine ⟨?_, ?_⟩
    · rw [sa_ne _ _ (by decide)]
      exact same.2
    · show (trS (lookS ρ h s q S) q (lookS ρ h s q S).2.1 s).1 0 = _
      rw [same.1]
/-- the seeker q finds it on z's day -/
def fnq (ρ : Option OV) (h z : OV) (S T q : Nat) : Prop := (psN ρ h S T q z).1.2.1 6 q = -1 ∧ (lookS ρ h (psN ρ h S T q z).1 q S).2.2.2.2 = 1
theorem ps_day {ρ : Option OV} {h z : OV} {S T : Nat} : ∀ n, (psN ρ h S T n z).1.1 0 = z.1 0
  | 0 => rfl
  | n + 1 => by
    show (sk1 ρ h S T n (psN ρ h S T n z)).1.1 0 = _
    unfold sk1
    split
    · exact (lf_found.2).trans (ps_day n)
    · exact ps_day n
theorem ps_step {ρ : Option OV} {h z : OV} {S T n : Nat} : (fnq ρ h z S T n → (psN ρ h S T (n + 1) z).1.2.1 6 = upd ((psN ρ h S T n z).1.2.1 6) n (z.1 0) ∧ (psN ρ h S T (n + 1) z).2 = (psN ρ h S T n z).2 + 1) ∧ (¬ fnq ρ h z S T n → (psN ρ h S T (n + 1) z).1.2.1 6 = (psN ρ h S T n z).1.2.1 6 ∧ (psN ρ h S T (n + 1) z).2 = (psN ρ h S T n z).2) := by
  have e : psN ρ h S T (n + 1) z = sk1 ρ h S T n (psN ρ h S T n z) := rfl
  rw [e]
  unfold sk1 fnq
  by_cases a : (psN ρ h S T n z).1.2.1 6 n = -1
  · rw [if_pos a]
    by_cases b : (lookS ρ h (psN ρ h S T n z).1 n S).2.2.2.2 = 1
    · refine ⟨fun _ => ⟨?_, if_pos b⟩, fun y => absurd ⟨a, b⟩ y⟩
      show (lfS ρ h S T n (psN ρ h S T n z).1).2.1 6 = _
      rw [lf_found.1, if_pos b, ps_day]
    · refine ⟨fun y => absurd y.2 b, fun _ => ⟨?_, if_neg b⟩⟩
      show (lfS ρ h S T n (psN ρ h S T n z).1).2.1 6 = _
      rw [lf_found.1, if_neg b]
  · rw [if_neg a]
    exact ⟨fun y => absurd y.1 a, fun _ => ⟨rfl, rfl⟩⟩
/-- nobody up to n: nothing of the finds has changed -/
theorem ps_none {ρ : Option OV} {h z : OV} {S T : Nat} : ∀ n, (∀ q, q < n → ¬ fnq ρ h z S T q) → (psN ρ h S T n z).1.2.1 6 = z.2.1 6 ∧ (psN ρ h S T n z).2 = 0
  | 0, _ => ⟨rfl, rfl⟩
  | n + 1, hn => by
    have ih := ps_none n (fun q hq => hn q (by omega))
    have st := (ps_step (ρ := ρ) (h := h) (z := z) (S := S) (T := T) (n := n)).2 (hn n (by omega))
    exact ⟨st.1.trans ih.1, st.2.trans ih.2⟩
theorem ps_some {ρ : Option OV} {h z : OV} {S T q0 : Nat} (h0 : ∀ q, q < q0 → ¬ fnq ρ h z S T q) (h1 : fnq ρ h z S T q0) : ∀ k, (∀ q, q < q0 → (psN ρ h S T (q0 + 1 + k) z).1.2.1 6 q = z.2.1 6 q) ∧ (psN ρ h S T (q0 + 1 + k) z).1.2.1 6 q0 = z.1 0 ∧ ∃ c, c ≤ k ∧ (psN ρ h S T (q0 + 1 + k) z).2 = nI (c + 1)
  | 0 => by
    have ih := ps_none q0 h0
    have st := (ps_step (ρ := ρ) (h := h) (z := z) (S := S) (T := T) (n := q0)).1 h1
    refine ⟨fun q hq => ?_, ?_, 0, Nat.le_refl 0, ?_⟩
    · show (psN ρ h S T (q0 + 1) z).1.2.1 6 q = _
      rw [st.1, upd_ne _ _ (by omega), ih.1]
    · show (psN ρ h S T (q0 + 1) z).1.2.1 6 q0 = _
      rw [st.1, upd_eq]
    · show (psN ρ h S T (q0 + 1) z).2 = _
      rw [st.2, ih.2]
      rfl
  | k + 1 => by
    obtain ⟨a, b, c, hc, e⟩ := ps_some h0 h1 k
    show (∀ q, q < q0 → (psN ρ h S T (q0 + 1 + k + 1) z).1.2.1 6 q = z.2.1 6 q) ∧ (psN ρ h S T (q0 + 1 + k + 1) z).1.2.1 6 q0 = z.1 0 ∧ ∃ c, c ≤ k + 1 ∧ (psN ρ h S T (q0 + 1 + k + 1) z).2 = nI (c + 1)
    by_cases f : fnq ρ h z S T (q0 + 1 + k)
    · have st := (ps_step (ρ := ρ) (h := h) (z := z) (S := S) (T := T) (n := q0 + 1 + k)).1 f
      rw [st.1, st.2]
      exact ⟨fun q hq => by rw [upd_ne _ _ (by omega)]; exact a q hq, by rw [upd_ne _ _ (by omega)]; exact b, c + 1, by omega, by rw [e, nI_1]⟩
    · have st := (ps_step (ρ := ρ) (h := h) (z := z) (S := S) (T := T) (n := q0 + 1 + k)).2 f
      rw [st.1, st.2]
      exact ⟨a, b, c, by omega, e⟩
theorem nw_found {h s : OV} {S K : Nat} {dr : Prop} : (nwS h S K dr s).2.1 6 = s.2.1 6 := by
  unfold nwS
  split
  · rfl
  · rfl
/-- either nobody finds it on the day, or q0 first -/
theorem fst_or {ρ : Option OV} {h z : OV} {S T : Nat} : ∀ Q, (∀ q, q < Q → ¬ fnq ρ h z S T q) ∨ ∃ q0, q0 < Q ∧ (∀ q, q < q0 → ¬ fnq ρ h z S T q) ∧ fnq ρ h z S T q0
  | 0 => Or.inl (fun q hq => absurd hq (Nat.not_lt_zero q))
  | Q + 1 => by
    rcases fst_or (ρ := ρ) (h := h) (z := z) (S := S) (T := T) Q with a | ⟨q0, a, b, c⟩
    · rcases Classical.em (fnq ρ h z S T Q) with f | f
      · exact Or.inr ⟨Q, by omega, a, f⟩
      · refine Or.inl (fun q hq => ?_)
        by_cases e : q = Q
        · rw [e]; exact f
        · exact a q (by omega)
    · exact Or.inr ⟨q0, by omega, b, c⟩
theorem cp_isTold {t c h : OV} {S Q : Nat} (hv : Hv h S Q) {x : Int32} {post : Int32 → Prop} (hp : post (zb (h.1 0 = 1 ∧ isIx x 2))) : PX8_isTold t c h x post := by
  unfold PX8_isTold PX8_isPart
  rcases hv.2.2.2.2.2.2 with ⟨t0, _⟩ | ⟨t1, _⟩
  · rw [zb_f (fun y => by rw [t0] at y; exact absurd y.1 (by decide))] at hp
    exact br_t t0 hp
  · refine br_f (by rw [t1]; decide) ?_
    by_cases e : x = 0
    · rw [zb_t ⟨t1, 0, by omega, e⟩] at hp
      exact br_t e (br_f (by decide) hp)
    · refine br_f e ?_
      by_cases e1 : x = 1
      · rw [zb_t ⟨t1, 1, by omega, e1⟩] at hp
        exact br_nt e1 (br_f (by decide) hp)
      · rw [zb_f (fun y => by
          obtain ⟨k, hk, ek⟩ := y.2
          have : k = 0 ∨ k = 1 := by omega
          rcases this with rfl | rfl
          · exact e ek
          · exact e1 ek)] at hp
        exact br_nf e1 (br_t rfl hp)
theorem told_iff {h : OV} {S Q : Nat} (hv : Hv h S Q) : (¬ h.1 0 = 0 ↔ h.1 0 = 1) := by
  rcases hv.2.2.2.2.2.2 with ⟨t0, _⟩ | ⟨t1, _⟩
  · rw [t0]
    exact ⟨fun y => absurd rfl y, fun y => absurd y (by decide)⟩
  · rw [t1]
    exact ⟨fun _ => rfl, fun _ => by decide⟩
theorem ds_1 {ρ : Option OV} {h z : OV} {S T Q K : Nat} : dsN ρ h S T Q K 1 z = pasN ρ h S T Q z := Int32.zero_add _
/-- the reference's search of a day for the first finder -/
theorem mp_firstDay {m h z m1 : OV} {ρ : Option OV} {S T Q K d : Nat} {K32 : Int32 → Int32 → Int32 → Int32 → OV → Prop} {post : Int32 → OV → Prop} {x day : Int32} (lim : Lim S T Q K) (hv : Hv h S Q) (so : Sok z S Q d d) (r : TrI m ρ h S T Q K z m1) (h0 : (∀ q, q < Q → ¬ fnq ρ h z S T q) → ∀ m2, TrI m ρ h S T Q K (passS ρ h S T Q K False z) m2 → K32 x (-2) (-2) (day + 1) m2) (h1 : ∀ q0, q0 < Q → (∀ q, q < q0 → ¬ fnq ρ h z S T q) → fnq ρ h z S T q0 → ∀ m2, Kp m m2 → m2.1 50 = 0 → K32 x (nI q0) (nI d) (day + 1) m2) : ∃ n, PX9_first_L48 K32 post n x (-2) (-2) day 0 m1 := by
  obtain ⟨k, hr, sr, ru, e50⟩ := r
  have l1 := lim.1
  have l3 := lim.2.2.1
  refine fr_rel (fun n i (p : Int32 × Int32 × OV) => PX9_first_L48 K32 post n x p.1 p.2.1 day (nI i) p.2.2) (fun i p => Fr [53, 54] [5, 6, 9, 11, 12, 13, 51] [7] [48, 49, 52] m1 p.2.2 ∧ ((p.1 = -2 ∧ p.2.1 = -2 ∧ (∀ q, q < i → ¬ fnq ρ h z S T q) ∧ SRel (psN ρ h S T i z).1 S T Q p.2.2) ∨ ∃ q0, q0 < Q ∧ p.1 = nI q0 ∧ p.2.1 = nI d ∧ (∀ q, q < q0 → ¬ fnq ρ h z S T q) ∧ fnq ρ h z S T q0)) Q (-2, -2, m1) ⟨Fr_refl, Or.inl ⟨rfl, rfl, fun q hq => absurd hq (Nat.not_lt_zero q), sr⟩⟩ ?_ ?_
  · rintro n ⟨a, b, m2⟩ ⟨f, cs⟩
    show PX9_first_L48 K32 post (n + 1) x a b day (nI Q) m2
    have hr2 := HRel_fr f (by decide) (by decide) hr
    have k2 := Kp_fr k f (by decide) (by decide) (by decide) (by decide)
    have g50 : m2.1 50 = 0 := (f.1 50 (by decide)).trans e50
    unfold PX9_first_L48 PX9_first_b102
    rw [show m2.2.1 1 ((5 : Int32)).toNatClampNeg = nI Q from hr2.1.2.2.2.2.1]
    refine br_t (Int32.le_refl _) ?_
    rcases cs with ⟨ea, eb, no, sr2⟩ | ⟨q0, hq0, ea, eb, no, ys⟩
    · have ea' : a = -2 := ea
      have eb' : b = -2 := eb
      subst ea'
      subst eb'
      refine br_nt rfl ?_
      have so1 := Sok_psN (ρ := ρ) (h := h) (T := T) l1 l3 (show d < d + 1 by omega) (Sok_up (by omega) so) Q (Nat.le_refl Q)
      refine mp_walksBy lim so1 hr2 sr2 (Or.inl g50) (fun m3 f3 sr3 => ?_)
      rintro _ rfl
      rw [show (m2.1 50 = 1) = False from by rw [g50]; exact eq_false (by decide)] at sr3
      refine h0 no m3 ⟨Kp_fr k2 f3 (by decide) (by decide) (by decide) (by decide), HRel_fr f3 (by decide) (by decide) hr2, sr3, RuR_fr f3 (by decide) (by decide) (RuR_fr f (by decide) (by decide) ru), (f3.1 50 (by decide)).trans g50⟩
    · have ea' : a = nI q0 := ea
      have eb' : b = nI d := eb
      subst ea'
      subst eb'
      refine br_nf (fun e => ?_) ?_
      · have : isIx (-2) 4 := ⟨q0, by omega, e.symm⟩
        exact absurd ((isIx_iff (by omega)).mp this).1 (by decide)
      · rintro _ rfl
        exact h1 q0 hq0 no ys m2 k2 g50
  · rintro n i ⟨a, b, m2⟩ hi ⟨f, cs⟩ next
    show PX9_first_L48 K32 post (n + 1) x a b day (nI i) m2
    have hr2 := HRel_fr f (by decide) (by decide) hr
    have k2 := Kp_fr k f (by decide) (by decide) (by decide) (by decide)
    have g50 : m2.1 50 = 0 := (f.1 50 (by decide)).trans e50
    unfold PX9_first_L48 PX9_first_b102
    rw [show m2.2.1 1 ((5 : Int32)).toNatClampNeg = nI Q from hr2.1.2.2.2.2.1]
    refine br_f (fr_nle hi (by omega)) ?_
    rcases cs with ⟨ea, eb, no, sr2⟩ | ⟨q0, hq0, ea, eb, no, ys⟩
    · have ea' : a = -2 := ea
      have eb' : b = -2 := eb
      subst ea'
      subst eb'
      have so1 := Sok_psN (ρ := ρ) (h := h) (T := T) l1 l3 (show d < d + 1 by omega) (Sok_up (by omega) so) i (by omega)
      refine br_nt rfl ⟨vp_in_q (by omega) (by omega), ?_⟩
      rw [nI_31 (show i < 1000 by omega), (sr2.2.2.2 i hi).2.1]
      have step : psN ρ h S T (i + 1) z = sk1 ρ h S T i (psN ρ h S T i z) := rfl
      unfold sk1 at step
      refine br_nc (fun g => ?_) (fun g => mp_looksFor lim hv so1 (by omega) hr2 sr2 (RuR_fr f (by decide) (by decide) ru) hi (fun m3 f3 sr3 => ?_))
      · rintro _ rfl
        rw [nI_1]
        rw [if_neg g] at step
        refine next (-2, -2, m2) ⟨f, Or.inl ⟨rfl, rfl, fun q hq => ?_, by rw [step]; exact sr2⟩⟩
        by_cases e : q = i
        · rw [e]; exact fun y => g y.1
        · exact no q (by omega)
      · rw [if_pos g] at step
        unfold fndS
        by_cases c : (lookS ρ h (psN ρ h S T i z).1 i S).2.2.2.2 = 1
        · rw [if_pos c]
          refine br_f (by decide) ?_
          have e8 : m3.2.1 1 ((8 : Int32)).toNatClampNeg = nI d := by
            have := sr3.1.2.2
            rw [lf_found.2, ps_day, so.1] at this
            exact this
          rw [e8]
          rintro _ rfl _ rfl
          rw [nI_1]
          exact next (nI i, nI d, m3) ⟨Fr_trans f f3, Or.inr ⟨i, hi, rfl, rfl, no, g, c⟩⟩
        · rw [if_neg c]
          refine br_t rfl ?_
          rintro _ rfl
          rw [nI_1]
          refine next (-2, -2, m3) ⟨Fr_trans f f3, Or.inl ⟨rfl, rfl, fun q hq => ?_, by rw [step]; exact sr3⟩⟩
          by_cases e : q = i
          · rw [e]; exact fun y => c y.2
          · exact no q (by omega)
    · have ea' : a = nI q0 := ea
      have eb' : b = nI d := eb
      subst ea'
      subst eb'
      have ne : ¬ nI q0 = -2 := fun e => by
        have : isIx (-2) 4 := ⟨q0, by omega, e.symm⟩
        exact absurd ((isIx_iff (by omega)).mp this).1 (by decide)
      refine br_nf ne (br_nf ne ?_)
      rintro _ rfl
      exact h1 q0 hq0 no ys m2 k2 g50
theorem mp_firstLoop {m h z m1 : OV} {ρ : Option OV} {S T Q K d : Nat} {post : Int32 → OV → Prop} {x : Int32} (lim : Lim S T Q K) (hv : Hv h S Q) (so : Sok z S Q d d) (r : TrI m ρ h S T Q K z m1) (hn : (∀ j, j < 60 → ∀ q, q < Q → ¬ fnq ρ h (daysS ρ h S T Q K j z) S T q) → ∀ m2, Kp m m2 → m2.1 50 = 0 → PX9_first_b118 post x (-2) (-2) m2) (hs : ∀ j, j < 60 → ∀ q0, q0 < Q → (∀ i, i < j → ∀ q, q < Q → ¬ fnq ρ h (daysS ρ h S T Q K i z) S T q) → (∀ q, q < q0 → ¬ fnq ρ h (daysS ρ h S T Q K j z) S T q) → fnq ρ h (daysS ρ h S T Q K j z) S T q0 → ∀ m2, Kp m m2 → m2.1 50 = 0 → PX9_first_b118 post x (nI q0) (nI (d + j)) m2) : ∃ n, PX9_first_L32 post n x (-2) (-2) 0 m1 := by
  have l1 := lim.1
  have l3 := lim.2.2.1
  have nem : ∀ q0, q0 < Q → ¬ nI q0 = -2 := fun q0 hq e => by
    have : isIx (-2) 4 := ⟨q0, by omega, e.symm⟩
    exact absurd ((isIx_iff (by omega)).mp this).1 (by decide)
  refine fr_rel (fun k i (p : Int32 × Int32 × OV) => PX9_first_L32 post k x p.1 p.2.1 (nI i) p.2.2) (fun i p => (p.1 = -2 ∧ p.2.1 = -2 ∧ TrI m ρ h S T Q K (daysS ρ h S T Q K i z) p.2.2 ∧ ∀ j, j < i → ∀ q, q < Q → ¬ fnq ρ h (daysS ρ h S T Q K j z) S T q) ∨ ∃ j q0, j < i ∧ q0 < Q ∧ p.1 = nI q0 ∧ p.2.1 = nI (d + j) ∧ Kp m p.2.2 ∧ p.2.2.1 50 = 0 ∧ (∀ i, i < j → ∀ q, q < Q → ¬ fnq ρ h (daysS ρ h S T Q K i z) S T q) ∧ (∀ q, q < q0 → ¬ fnq ρ h (daysS ρ h S T Q K j z) S T q) ∧ fnq ρ h (daysS ρ h S T Q K j z) S T q0) 60 (-2, -2, m1) (Or.inl ⟨rfl, rfl, r, fun j hj => absurd hj (Nat.not_lt_zero j)⟩) ?_ ?_
  · rintro k ⟨a, b, m2⟩ cs
    show PX9_first_L32 post (k + 1) x a b (nI 60) m2
    unfold PX9_first_L32
    refine br_t (Int32.le_refl _) ?_
    rcases cs with ⟨ea, eb, r2, no⟩ | ⟨j, q0, hj, hq0, ea, eb, k2, e50, o1, o2, o3⟩
    · rw [show a = -2 from ea, show b = -2 from eb]
      exact hn no m2 r2.1 r2.2.2.2.2
    · rw [show a = _ from ea, show b = _ from eb]
      exact hs j hj q0 hq0 o1 o2 o3 m2 k2 e50
  · rintro k i ⟨a, b, m2⟩ hi cs next
    show PX9_first_L32 post (k + 1) x a b (nI i) m2
    unfold PX9_first_L32
    refine br_f (fr_nle (b := 60) (by omega) (by omega)) ?_
    rcases cs with ⟨ea, eb, r2, no⟩ | ⟨j, q0, hj, hq0, ea, eb, k2, e50, o1, o2, o3⟩
    · rw [show a = -2 from ea, show b = -2 from eb]
      refine br_nt rfl ?_
      refine mp_firstDay lim hv (Sok_days l1 l3 so i) r2 (fun nf m3 r3 => ?_) (fun q0 hq0 b1 b2 m3 k3 e50 => ?_)
      · rw [nI_1]
        refine next (-2, -2, m3) (Or.inl ⟨rfl, rfl, r3, fun j hj => ?_⟩)
        by_cases e : j = i
        · rw [e]; exact nf
        · exact no j (by omega)
      · rw [nI_1]
        exact next (nI q0, nI (d + i), m3) (Or.inr ⟨i, q0, by omega, hq0, rfl, rfl, k3, e50, no, b1, b2⟩)
    · rw [show a = _ from ea, show b = _ from eb]
      exact br_nf (nem q0 hq0) (hs j (by omega) q0 hq0 o1 o2 o3 m2 k2 e50)
theorem sim_first {n : Nat} {t c h s w z m : OV} {pp pr : Nat → OV} {im : Nat → Option IMG} {x : Int32} (sim : Sim t c h s pp pr n im m) : PX8_first t c h s w z pr n x (fun r w' z' pr' => PX9_first m x (fun r' m' => r = r' ∧ Sim t c h s pp pr' n im m')) := by
  have sim0 := sim
  obtain ⟨⟨S, T, Q, K, d, w0⟩, tap, rl, mi, ims⟩ := sim
  have w0' := w0
  obtain ⟨hok, hv, hr, so, hd, sr, td, nm, fc, dw, ps⟩ := w0'
  have lim := hok.1
  have l1 := lim.1
  have l3 := lim.2.2.1
  unfold PX8_first
  refine cp_isTold hv ?_
  by_cases A : h.1 0 = 1 ∧ isIx x 2
  · rw [zb_t A]
    have tn : ¬ h.1 0 = 0 := (told_iff hv).mpr A.1
    refine br_nf (by decide) (cp_copy (fun z1 ez => ?_))
    have so1 := Sok_eq l1 ez so
    have ref : ∀ post : Int32 → OV → Prop, (∀ m1, TrI m (rhoS c pr) h S T Q K z1 m1 → ∃ n, PX9_first_L32 post n x (-2) (-2) 0 m1) → PX9_first m x post := by
      intro post hp
      unfold PX9_first
      refine mp_isHill hv hr (br_f tn (mp_inC 2 (by omega) (by decide) ?_))
      rw [zb_t A.2]
      exact br_nf (by decide) (tr_keep w0 rl mi.2 (fun m1 r1 => hp m1 (TrI_eq lim ez r1)))
    have fin : ∀ (pr' : Nat → OV), PrEq pr pr' → ∀ (v y2 y3 : Int32) m2, Kp m m2 → m2.1 50 = 0 → (v = if x = 0 then y2 else y3) → PX9_first_b118 (fun r' m' => v = r' ∧ Sim t c h s pp pr' n im m') x y2 y3 m2 := by
      intro pr' q v y2 y3 m2 k2 e50 ev
      unfold PX9_first_b118
      refine tr_back w0 rl mi.2 k2 e50 (fun m3 ag hl _ => br_nc (fun e => ⟨?_, Sim_keep q ag hl sim0⟩) (fun e => ⟨?_, Sim_keep q ag hl sim0⟩))
      · rw [ev, if_neg e]
      · rw [ev, if_pos e]
    refine fr_rel (fun k i (p : OV × OV × (Nat → OV)) => PX8_first_L26 t c h s n _ k x (nI i) p.1 p.2.1 p.2.2) (fun i p => p.2.1 = daysS (rhoS c pr) h S T Q K i z1 ∧ PrEq pr p.2.2 ∧ ∀ j, j < i → ∀ q, q < Q → ¬ fnq (rhoS c pr) h (daysS (rhoS c pr) h S T Q K j z1) S T q) 60 (w, z1, pr) ⟨rfl, PrEq_refl pr, fun j hj => absurd hj (Nat.not_lt_zero j)⟩ ?_ ?_
    · rintro k ⟨w2, z2, pr2⟩ ⟨e2, q2, no⟩
      show PX8_first_L26 t c h s n _ (k + 1) x (nI 60) w2 z2 pr2
      unfold PX8_first_L26
      refine br_t (Int32.le_refl _) (ref _ (fun m1 r1 => mp_firstLoop lim hv so1 r1 (fun _ m2 k2 e50 => fin pr2 q2 (-2) (-2) (-2) m2 k2 e50 ?_) (fun j hj q0 hq0 _ _ y => absurd y (no j hj q0 hq0))))
      split <;> rfl
    · rintro k i ⟨w2, z2, pr2⟩ hi ⟨e2, q2, no⟩ next
      have e2' : z2 = daysS (rhoS c pr) h S T Q K i z1 := e2
      have q2' : PrEq pr pr2 := q2
      subst e2'
      show PX8_first_L26 t c h s n _ (k + 1) x (nI i) w2 (daysS (rhoS c pr) h S T Q K i z1) pr2
      have soi := Sok_days (ρ := rhoS c pr) (h := h) (T := T) (K := K) l1 l3 so1 i
      unfold PX8_first_L26
      refine br_f (fr_nle (b := 60) hi (by omega)) ?_
      rw [soi.1]
      rintro _ rfl
      have rhoe : ∀ zz, dsN (rhoS c pr2) h S T Q K 1 zz = pasN (rhoS c pr) h S T Q zz ∧ daysS (rhoS c pr2) h S T Q K 1 zz = passS (rhoS c pr) h S T Q K False zz := by
        intro zz
        have eo : rhoS c pr2 = rhoO pr2 (if c.1 1 = -1 then none else some (c.1 1).toNatClampNeg) := by
          unfold rhoS rhoO
          split <;> rfl
        have eo1 : rhoS c pr = rhoO pr (if c.1 1 = -1 then none else some (c.1 1).toNatClampNeg) := by
          unfold rhoS rhoO
          split <;> rfl
        have pe := pass_pr q2' (if c.1 1 = -1 then none else some (c.1 1).toNatClampNeg) h S T Q K False zz
        rw [ds_1, eo, eo1]
        exact ⟨pe.2, pe.1⟩
      refine cp_goOn (N := 1) (by omega) hok fc (Rls_pr q2' rl) (fun w3 pr3 q3 => ?_)
      rw [(rhoe _).1, (rhoe _).2]
      have q23 := PrEq_trans q2' q3
      rcases fst_or (ρ := rhoS c pr) (h := h) (z := daysS (rhoS c pr) h S T Q K i z1) (S := S) (T := T) Q with nf | ⟨q0, hq0, b1, b2⟩
      · have pz : pasN (rhoS c pr) h S T Q (daysS (rhoS c pr) h S T Q K i z1) = 0 := (ps_none Q nf).2
        rw [pz]
        refine br_t (by decide) ?_
        rintro _ rfl
        rw [nI_1]
        refine next (w3, passS (rhoS c pr) h S T Q K False (daysS (rhoS c pr) h S T Q K i z1), pr3) ⟨rfl, q23, fun j hj => ?_⟩
        by_cases e : j = i
        · rw [e]; exact nf
        · exact no j (by omega)
      · obtain ⟨f1, f2, cc, hcc, f3⟩ := ps_some b1 b2 (Q - (q0 + 1))
        rw [show q0 + 1 + (Q - (q0 + 1)) = Q by omega] at f1 f2 f3
        have pz : pasN (rhoS c pr) h S T Q (daysS (rhoS c pr) h S T Q K i z1) = nI (cc + 1) := f3
        rw [pz]
        refine br_f (nI_nle (by omega) (by omega)) ?_
        have refq : ∀ (v : Int32), (v = if x = 0 then nI q0 else nI (d + i)) → PX9_first m x (fun r' m' => v = r' ∧ Sim t c h s pp pr3 n im m') := by
          intro v ev
          refine ref _ (fun m1 r1 => mp_firstLoop lim hv so1 r1 (fun nn => absurd b2 (nn i hi q0 hq0)) (fun j hj q1 hq1 o1 o2 o3 m2 k2 e50 => ?_))
          have ej : j = i := by
            rcases Nat.lt_trichotomy j i with y | y | y
            · exact absurd o3 (no j y q1 hq1)
            · exact y
            · exact absurd b2 (o1 i y q0 hq0)
          subst ej
          have eq : q1 = q0 := by
            rcases Nat.lt_trichotomy q1 q0 with y | y | y
            · exact absurd o3 (b1 q1 y)
            · exact y
            · exact absurd b2 (o2 q0 y)
          subst eq
          exact fin pr3 q23 v _ _ m2 k2 e50 ev
        refine br_nc (fun e => refq _ (by rw [if_neg e])) (fun e => ?_)
        have fo : (passS (rhoS c pr) h S T Q K False (daysS (rhoS c pr) h S T Q K i z1)).2.1 6 = (psN (rhoS c pr) h S T Q (daysS (rhoS c pr) h S T Q K i z1)).1.2.1 6 := nw_found
        have at0 : (passS (rhoS c pr) h S T Q K False (daysS (rhoS c pr) h S T Q K i z1)).2.1 6 q0 = nI (d + i) := by rw [fo, f2, soi.1]
        refine cp_finderOn (fun all => absurd at0 (all q0 (by omega))) (fun q hq eq bef => refq _ ?_)
        rw [if_pos e]
        rcases Nat.lt_trichotomy q q0 with y | y | y
        · rw [fo, f1 q y] at eq
          rcases (soi.2.2.2.2.1 q hq).2 with g | ⟨e', he', g⟩
          · rw [g] at eq
            exact absurd eq.symm (fun y => absurd ((isIx_iff (n := 5000 - 1) (by omega)).mp ⟨d + i, by omega, y.symm⟩).1 (by decide))
          · rw [g] at eq
            have := (nI_eq (by omega) (by omega)).mp eq
            omega
        · rw [y]
        · exact absurd at0 (bef q0 y)
  · rw [zb_f A]
    refine br_nt rfl ?_
    unfold PX9_first
    refine mp_isHill hv hr (br_c (fun _ => ⟨rfl, sim0⟩) (fun e => mp_inC 2 (by omega) (by decide) ?_))
    rw [zb_f (fun y => A ⟨(told_iff hv).mp e, y⟩)]
    exact br_nt rfl ⟨rfl, sim0⟩
