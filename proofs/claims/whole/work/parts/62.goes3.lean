/-! 62: looksFor, goes, goFor -/
theorem mp_looksFor {m h s : OV} {S T Q K d e q : Nat} {ρ : Option OV} (lim : Lim S T Q K) (hv : Hv h S Q) (so : Sok s S Q d e) (de : d < e) (hr : HRel h S T Q K m) (sr : SRel s S T Q m) (ru : RuR ρ m) (hq : q < Q) {post : Int32 → OV → Prop} (hp : ∀ m', Fr [53, 54] [5, 6, 9, 11, 12, 13, 51] [7] [48, 49, 52] m m' → SRel (lfS ρ h S T q s) S T Q m' → post (fndS (lookS ρ h s q S)) m') : PX9_looksFor m (nI q) post := by
  have l1 : S ≤ 10 := lim.1
  have l2 : T ≤ 6 := lim.2.1
  have l3 : Q ≤ 4 := lim.2.2.1
  unfold PX9_looksFor
  refine mp_laysLooking lim hv so hr sr ru hq (fun m1 f1 lm => ?_)
  have sr1 := SRel_fr f1 (by decide) (by decide) sr
  obtain ⟨k1, k2, k3⟩ := look_ok (ρ := ρ) (h := h) (s := s) (q := q) l1
  have f1' : Fr [53, 54] [5, 6, 9, 11, 12, 13, 51] [7] [48, 49, 52] m m1 := Fr_mono f1 (by decide) (by decide) (by decide) (by decide)
  refine fr_rel (fun n i m2 => PX9_looksFor_L8 post n (nI q) (fndS (lookS ρ h s q S)) (nI i) m2) (fun i m2 => Fr [53, 54] [5, 6, 9, 11, 12, 13, 51] [7] [48, 49, 52] m m2 ∧ SRel (trS (lookS ρ h s q S) q i s) S T Q m2 ∧ LkM (lookS ρ h s q S) m2) (lookS ρ h s q S).2.1 m1 ⟨f1', sr1, lm⟩ ?_ ?_
  · rintro n m2 ⟨f2, sr2, lm2⟩
    have so2 := Sok_trS l1 hq k2 so _ (Nat.le_refl _)
    have same := trS_same (s := s) (q := q) (x := lookS ρ h s q S) (lookS ρ h s q S).2.1
    have hr2 := HRel_fr f2 (by decide) (by decide) hr
    unfold lfS at hp
    unfold PX9_looksFor_L8
    rw [lm2.1, nI_31 (show q < 1000 by omega), (sr2.2.2.2 q hq).2.2.1, show m2.2.1 1 ((8 : Int32)).toNatClampNeg = (trS (lookS ρ h s q S) q (lookS ρ h s q S).2.1 s).1 0 from sr2.1.2.2]
    refine br_t (Int32.le_refl _) ?_
    unfold fndS at hp ⊢
    by_cases c : (lookS ρ h s q S).2.2.2.2 = 1
    · simp only [if_pos c] at hp
      rw [if_pos c]
      refine br_f (by decide) ?_
      rintro _ rfl
      refine ⟨vp_in_q (by omega) (by omega), ?_⟩
      rintro _ rfl
      have f3 := Fr_sa (k := 11) (f := upd (m2.2.1 11) q ((trS (lookS ρ h s q S) q (lookS ρ h s q S).2.1 s).1 0)) (by decide) (by decide) f2
      have sr3 := SRel_11 q ((trS (lookS ρ h s q S) q (lookS ρ h s q S).2.1 s).1 0) sr2
      refine mp_swaps l2 l3 hq ?_ sr3 (fun m4 f4 sr4 => ?_)
      · exact (HRel_fr f3 (by decide) (by decide) hr).1.2.2.2.1
      have f5 := Fr_trans f3 (Fr_mono f4 (by decide) (by decide) (by decide) (by decide))
      have hr5 := HRel_fr f5 (by decide) (by decide) hr
      refine mp_putsBack (sh := h.2.1 15 q) l1 l3 hq hr5.1.2.2.1 (hr5.2.2.1 q hq).2.2 ?_ sr4 (fun m6 f6 sr6 => ?_)
      · rw [sw_tin]
        show isIx ((trS (lookS ρ h s q S) q (lookS ρ h s q S).2.1 s).1 2) S
        rw [same.1]
        exact k3 c
      · exact hp m6 (Fr_trans f5 (Fr_mono f6 (by decide) (by decide) (by decide) (by decide))) sr6
    · simp only [if_neg c] at hp
      rw [if_neg c]
      refine br_t rfl ⟨vp_in_q (by omega) (by omega), ?_⟩
      obtain ⟨v, hv', ev⟩ := (so2.2.2.2.2.1 q (by omega)).1
      have ca := c99_all v hv'
      rw [← ev] at ca
      refine br_c (fun g => ⟨vp_in_q (by omega) (by omega), ?_⟩) (fun g => ⟨vp_in_q (by omega) (by omega), ?_⟩)
      · rintro _ rfl
        rw [← ca.1 g]
        exact hp _ (Fr_sa (by decide) (by decide) f2) (SRel_12 q _ sr2)
      · rintro _ rfl
        refine ⟨vp_in_q (by omega) (by omega), ?_⟩
        rintro _ rfl
        rw [← ca.2.1 g]
        exact hp _ (Fr_sa (by decide) (by decide) f2) (SRel_12 q _ sr2)
  · rintro n i m2 hi ⟨f2, sr2, lm2⟩ next
    have so2 := Sok_trS l1 hq k2 so i (by omega)
    obtain ⟨t, ht, et⟩ := k2 i hi
    unfold PX9_looksFor_L8
    rw [lm2.1, nI_31 (show i < 1000 by omega), lm2.2.2 i hi, et]
    refine br_f (fr_nle hi (by omega)) ⟨vp_in_q (by omega) (by omega), ?_⟩
    rintro _ rfl
    rw [nI_31 (show t < 1000 by omega), sr2.2.1 t ht]
    refine ⟨vp_in_q (by omega) (by omega), ?_⟩
    obtain ⟨v, hv', ev⟩ := so2.2.2.2.1 t ht
    have ca := c99_all v hv'
    rw [← ev] at ca
    have go : PX9_looksFor_b56 (PX9_looksFor_L8 post n) post (nI t) (c99 ((trS (lookS ρ h s q S) q i s).2.1 3 t)) (nI q) (fndS (lookS ρ h s q S)) (nI i) (nI t) m2 := by
      unfold PX9_looksFor_b56
      rw [nI_31 (show t < 1000 by omega), nI_31 (show q < 1000 by omega)]
      refine ⟨vp_in_q (by omega) (by omega), ?_⟩
      rintro _ rfl
      refine ⟨vp_in_q (by omega) (by omega), ?_⟩
      rintro _ rfl
      refine ⟨vp_in_q (by omega) (by omega), ?_⟩
      rintro _ rfl _ rfl
      rw [nI_1]
      refine next _ ⟨Fr_sa (by decide) (by decide) (Fr_sa (by decide) (by decide) f2), ?_, lm2⟩
      show SRel (trc q ((lookS ρ h s q S).2.2.1 i).toNatClampNeg (trS (lookS ρ h s q S) q i s)) S T Q _
      rw [et, nI_31 (show t < 1000 by omega)]
      have r := SRel_13 q ((trS (lookS ρ h s q S) q i s).2.1 8 q ||| ((1 : Int32) <<< (nI t &&& 31))) (SRel_5 t (c99 ((trS (lookS ρ h s q S) q i s).2.1 3 t)) sr2)
      rw [show (sa m2 5 (upd (m2.2.1 5) t (c99 ((trS (lookS ρ h s q S) q i s).2.1 3 t)))).2.1 13 q = (trS (lookS ρ h s q S) q i s).2.1 8 q from (sr2.2.2.2 q hq).2.2.2]
      exact r
    refine br_c (fun g => ?_) (fun g => ⟨vp_in_q (by omega) (by omega), ?_⟩)
    · rw [← ca.1 g]
      exact go
    · rw [← ca.2.1 g]
      exact go
theorem Sok_psN {ρ : Option OV} {h s : OV} {S T Q d e : Nat} (hS : S ≤ 10) (hQ : Q ≤ 4) (de : d < e) (o : Sok s S Q d e) : ∀ n, n ≤ Q → Sok (psN ρ h S T n s).1 S Q d e
  | 0, _ => o
  | n + 1, hn => by
    have ih := Sok_psN (ρ := ρ) (h := h) (T := T) hS hQ de o n (by omega)
    show Sok (sk1 ρ h S T n (psN ρ h S T n s)).1 S Q d e
    unfold sk1
    split
    · exact Sok_lf hS hQ (by omega) de ih
    · exact ih
theorem Sok_nw {h s : OV} {S Q K d e : Nat} {dr : Prop} (o : Sok s S Q d e) : Sok (nwS h S K dr s) S Q (d + 1) e := by
  unfold nwS
  split
  · exact Sok_day (Sok_tin (Or.inl rfl) o)
  · exact Sok_day o
theorem Sok_pass {ρ : Option OV} {h s : OV} {S T Q K d : Nat} {dr : Prop} (hS : S ≤ 10) (hQ : Q ≤ 4) (o : Sok s S Q d d) : Sok (passS ρ h S T Q K dr s) S Q (d + 1) (d + 1) := Sok_nw (Sok_psN hS hQ (by omega) (Sok_up (by omega) o) Q (Nat.le_refl Q))
theorem mp_goes {m h s : OV} {S T Q K d : Nat} {ρ : Option OV} (lim : Lim S T Q K) (hv : Hv h S Q) (so : Sok s S Q d d) (hr : HRel h S T Q K m) (sr : SRel s S T Q m) (ru : RuR ρ m) (e50 : m.1 50 = 0 ∨ m.1 50 = 1) {post : Int32 → OV → Prop} (hp : ∀ m', Fr [53, 54] [5, 6, 9, 11, 12, 13, 51] [7, 8] [48, 49, 52] m m' → SRel (passS ρ h S T Q K (m.1 50 = 1) s) S T Q m' → post (pasN ρ h S T Q s) m') : PX9_goes m post := by
  have l1 : S ≤ 10 := lim.1
  have l3 : Q ≤ 4 := lim.2.2.1
  unfold PX9_goes
  refine fr_rel (fun n i (p : Int32 × OV) => PX9_goes_L4 post n p.1 (nI i) p.2) (fun i p => Fr [53, 54] [5, 6, 9, 11, 12, 13, 51] [7] [48, 49, 52] m p.2 ∧ SRel (psN ρ h S T i s).1 S T Q p.2 ∧ p.1 = (psN ρ h S T i s).2) Q (0, m) ⟨Fr_refl, sr, rfl⟩ ?_ ?_
  · rintro n ⟨c, m1⟩ ⟨f1, sr1, ec⟩
    show PX9_goes_L4 post (n + 1) c (nI Q) m1
    have so1 := Sok_psN (ρ := ρ) (h := h) (T := T) l1 l3 (show d < d + 1 by omega) (Sok_up (by omega) so) Q (Nat.le_refl Q)
    have hr1 := HRel_fr f1 (by decide) (by decide) hr
    have g50 : m1.1 50 = m.1 50 := f1.1 50 (by decide)
    unfold PX9_goes_L4
    rw [show m1.2.1 1 ((5 : Int32)).toNatClampNeg = nI Q from hr1.1.2.2.2.2.1]
    refine br_t (Int32.le_refl _) (mp_walksBy lim so1 hr1 sr1 (by rw [g50]; exact e50) (fun m2 f2 sr2 => ?_))
    rw [g50] at sr2
    rw [show c = (psN ρ h S T Q s).2 from ec]
    exact hp m2 (Fr_trans (Fr_mono f1 (by decide) (by decide) (by decide) (by decide)) (Fr_mono f2 (by decide) (by decide) (by decide) (by decide))) sr2
  · rintro n i ⟨c, m1⟩ hi ⟨f1, sr1, ec⟩ next
    show PX9_goes_L4 post (n + 1) c (nI i) m1
    have so1 := Sok_psN (ρ := ρ) (h := h) (T := T) l1 l3 (show d < d + 1 by omega) (Sok_up (by omega) so) i (by omega)
    have hr1 := HRel_fr f1 (by decide) (by decide) hr
    have ec' : c = (psN ρ h S T i s).2 := ec
    have step : psN ρ h S T (i + 1) s = sk1 ρ h S T i (psN ρ h S T i s) := rfl
    unfold sk1 at step
    unfold PX9_goes_L4
    rw [show m1.2.1 1 ((5 : Int32)).toNatClampNeg = nI Q from hr1.1.2.2.2.2.1, nI_31 (show i < 1000 by omega), (sr1.2.2.2 i hi).2.1]
    refine br_f (fr_nle hi (by omega)) ⟨vp_in_q (by omega) (by omega), ?_⟩
    refine br_nc (fun g => ?_) (fun g => ?_)
    · rw [if_neg g] at step
      rintro _ rfl
      rw [nI_1]
      exact next (c, m1) ⟨f1, by rw [step]; exact sr1, by rw [step]; exact ec⟩
    · rw [if_pos g] at step
      refine mp_looksFor lim hv so1 (by omega) hr1 sr1 (RuR_fr f1 (by decide) (by decide) ru) hi (fun m2 f2 sr2 => ?_)
      unfold fndS
      by_cases w : (lookS ρ h (psN ρ h S T i s).1 i S).2.2.2.2 = 1
      · rw [if_pos w] at step ⊢
        refine br_f (by decide) ?_
        rintro _ rfl _ rfl
        rw [nI_1]
        exact next (_, m2) ⟨Fr_trans f1 f2, by rw [step]; exact sr2, by rw [step]; show c + 1 = (psN ρ h S T i s).2 + 1; rw [ec']⟩
      · rw [if_neg w] at step ⊢
        refine br_t rfl ?_
        rintro _ rfl
        rw [nI_1]
        exact next (_, m2) ⟨Fr_trans f1 f2, by rw [step]; exact sr2, by rw [step]; exact ec⟩
/-- n days -/
noncomputable def daysS (ρ : Option OV) (h : OV) (S T Q K : Nat) (n : Nat) (s : OV) : OV := itn (fun _ s => passS ρ h S T Q K False s) n s
theorem Sok_days {ρ : Option OV} {h s : OV} {S T Q K d : Nat} (hS : S ≤ 10) (hQ : Q ≤ 4) (o : Sok s S Q d d) : ∀ n, Sok (daysS ρ h S T Q K n s) S Q (d + n) (d + n)
  | 0 => o
  | n + 1 => Sok_pass hS hQ (Sok_days hS hQ o n)
theorem mp_goFor {m h s : OV} {S T Q K d : Nat} {ρ : Option OV} (lim : Lim S T Q K) (hv : Hv h S Q) (so : Sok s S Q d d) (hr : HRel h S T Q K m) (sr : SRel s S T Q m) (ru : RuR ρ m) (e50 : m.1 50 = 0) {N : Nat} (hN : N < 1000) {post : OV → Prop} (hp : ∀ m', Fr [53, 54] [5, 6, 9, 11, 12, 13, 51] [7, 8] [48, 49, 52] m m' → SRel (daysS ρ h S T Q K N s) S T Q m' → post m') : PX9_goFor m (nI N) post := by
  have l1 : S ≤ 10 := lim.1
  have l3 : Q ≤ 4 := lim.2.2.1
  unfold PX9_goFor
  refine fr_rel (fun n i m1 => PX9_goFor_L2 post n (nI N) (nI i) m1) (fun i m1 => Fr [53, 54] [5, 6, 9, 11, 12, 13, 51] [7, 8] [48, 49, 52] m m1 ∧ SRel (daysS ρ h S T Q K i s) S T Q m1) N m ⟨Fr_refl, sr⟩ ?_ ?_
  · rintro n m1 ⟨f1, sr1⟩
    unfold PX9_goFor_L2
    exact br_t (Int32.le_refl _) (hp m1 f1 sr1)
  · rintro n i m1 hi ⟨f1, sr1⟩ next
    have g50 : m1.1 50 = 0 := (f1.1 50 (by decide)).trans e50
    unfold PX9_goFor_L2
    refine br_f (fr_nle hi (by omega)) (mp_goes lim hv (Sok_days l1 l3 so i) (HRel_fr f1 (by decide) (by decide) hr) sr1 (RuR_fr f1 (by decide) (by decide) ru) (Or.inl g50) (fun m2 f2 sr2 => ?_))
    rintro _ rfl
    rw [nI_1]
    refine next m2 ⟨Fr_trans f1 f2, ?_⟩
    rw [show (m1.1 50 = 1) = False from by rw [g50]; exact eq_false (by decide)] at sr2
    exact sr2
