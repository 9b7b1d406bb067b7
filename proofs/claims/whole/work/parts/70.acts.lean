/-! 70: the calls: ACTS -/
def Stat (n : Nat) (c h m : OV) (S T Q K : Nat) : Prop := HRel h S T Q K m ∧ Told h T Q m ∧ Nms c Q m ∧ Fce n c m ∧ Drw c m
theorem Stat_of {n : Nat} {c h s m : OV} {pp : Nat → OV} {S T Q K d : Nat} (w : Scn n c h s pp m S T Q K d) : Stat n c h m S T Q K := ⟨w.2.2.1, w.2.2.2.2.2.2.1, w.2.2.2.2.2.2.2.1, w.2.2.2.2.2.2.2.2.1, w.2.2.2.2.2.2.2.2.2.1⟩
theorem Stat_fr {n : Nat} {c h m m' : OV} {S T Q K : Nat} {I A C L : List Nat} (f : Fr I A C L m m') (hA : ∀ k ∈ [2, 3, 4, 7, 8, 10, 14, 15, 16, 17, 18, 19], k ∉ A) (hC : ∀ k ∈ [1, 2, 3, 4, 5, 6, 9, 10, 11], k ∉ C) (w : Stat n c h m S T Q K) : Stat n c h m' S T Q K := by
  obtain ⟨a, b, ⟨nn, n1, n2, n3, n4⟩, e, g⟩ := w
  have sub : ∀ k ∈ [2, 3, 4, 7, 8, 10, 14], k ∉ A := fun k hk => hA k ((by decide : ∀ y ∈ [2, 3, 4, 7, 8, 10, 14], y ∈ [2, 3, 4, 7, 8, 10, 14, 15, 16, 17, 18, 19]) k hk)
  have subC : ∀ k ∈ [1, 2, 3, 4, 5, 6], k ∉ C := fun k hk => hC k ((by decide : ∀ y ∈ [1, 2, 3, 4, 5, 6], y ∈ [1, 2, 3, 4, 5, 6, 9, 10, 11]) k hk)
  have g15 := f.2.1 15 (hA 15 (by decide)) (by decide)
  have g16 := f.2.1 16 (hA 16 (by decide)) (by decide)
  have g17 := f.2.1 17 (hA 17 (by decide)) (by decide)
  have g18 := f.2.1 18 (hA 18 (by decide)) (by decide)
  have g19 := f.2.1 19 (hA 19 (by decide)) (by decide)
  refine ⟨HRel_fr f sub subC a, fun t => ?_, ⟨nn, n1, n2, (f.2.2.1 9 (hC 9 (by decide))).trans n3, fun k hk => ?_⟩, ⟨(f.2.2.1 11 (hC 11 (by decide))).trans e.1, e.2⟩, ⟨(f.2.2.1 10 (hC 10 (by decide))).trans g.1, g.2⟩⟩
  · rw [g17, g18, g19]
    exact b t
  · rw [g15, g16]
    exact n4 k hk
theorem Scn_mk {n : Nat} {c h s m : OV} {pp : Nat → OV} {S T Q K d : Nat} (hok : Hok h S T Q K) (hv : Hv h S Q) (st : Stat n c h m S T Q K) (so : Sok s S Q d d) (hd : d ≤ 999) (sr : SRel s S T Q m) (ps : Pst S T Q c pp m) : Scn n c h s pp m S T Q K d := ⟨hok, hv, st.1, so, hd, sr, st.2.1, st.2.2.1, st.2.2.2.1, st.2.2.2.2, ps⟩
theorem mp_isHill {m h : OV} {S T Q K : Nat} (hv : Hv h S Q) (hr : HRel h S T Q K m) {post : Int32 → Prop} (hp : post (h.1 0)) : PX9_isHill m post := by
  unfold PX9_isHill
  rw [show m.2.1 1 ((1 : Int32)).toNatClampNeg = h.1 2 from hr.1.1]
  rcases hv.2.2.2.2.2.2 with ⟨a, b⟩ | ⟨a, b⟩
  · rw [a] at hp
    exact br_t (by rw [b]; decide) hp
  · rw [a] at hp
    exact br_f (Int32.not_le.mpr b) hp
theorem mp_inC {x : Int32} {H : Int64} (n : Nat) (hn : n < 5000) (hH : (nI n - 1).toInt64 = H) {post : Int32 → Prop} (hp : post (zb (isIx x n))) : PX9_in x.toInt64 0 H post := by
  subst hH
  exact sp_inN hn hp
theorem Sim_act {n : Nat} {t c h s m m1 m2 z s' : OV} {pp pr pr' : Nat → OV} {im : Nat → Option IMG} {S T Q K d d' p a : Nat} (w : Scn n c h s pp m S T Q K d) (tap : Tap t m) (rl : Rls n t pr m) (mi : m.1 39 = 14 ∧ m.1 50 = 0) (ims : Ims n im m) (ez : SEq s z) (hp20 : p < 20) (ha : a ≤ 20) (old : ∀ i, i < a → Row S T Q (pp ((p + 20 - a + i) % 20)) (fun j => m.2.1 55 (35 * i + j)) ∧ ∃ d, d ≤ 999 ∧ Sok (pp ((p + 20 - a + i) % 20)) S Q d d) (f1 : Fr [57, 58, 59] [55] [] [] m m1) (e57 : m1.1 57 = nI (up20 a)) (rows : ∀ i, i < up20 a - 1 → ∀ j, j < 35 → m1.2.1 55 (35 * i + j) = m.2.1 55 (35 * (i + (a + 1 - up20 a)) + j)) (row : Row S T Q s (fun j => m1.2.1 55 (35 * (up20 a - 1) + j))) (f2 : Fr [53, 54] [5, 6, 9, 11, 12, 13, 51] [0, 7, 8] [48, 49, 52] m1 m2) (sr2 : SRel s' S T Q m2) (so2 : Sok s' S Q d' d') (hd' : d' ≤ 999) (q : PrEq pr pr') : Sim t (remC c p a) h s' (va_up pp p z) pr' n im m2 := by
  have g55 : m2.2.1 55 = m1.2.1 55 := f2.2.1 55 (by decide) (by decide)
  have hl : Hld m m2 := by
    have a1 := Hld_fr f1 (by decide) (by decide) (by decide)
    have a2 := Hld_fr f2 (by decide) (by decide) (by decide)
    exact ⟨⟨a2.1.1.trans a1.1.1, a2.1.2.1.trans a1.1.2.1, a2.1.2.2.1.trans a1.1.2.2.1, a2.1.2.2.2.trans a1.1.2.2.2⟩, fun k hk => (a2.2.1 k hk).trans (a1.2.1 k hk), fun j hj => (a2.2.2 j hj).trans (a1.2.2 j hj)⟩
  have st : Stat n c h m2 S T Q K := Stat_fr f2 (by decide) (by decide) (Stat_fr f1 (by decide) (by decide) (Stat_of w))
  refine ⟨⟨S, T, Q, K, d', Scn_mk w.1 w.2.1 st so2 hd' sr2 ?_⟩, Tap_hld hl tap, Rls_pr q (Rls_hld hl rl), ⟨hl.1.2.2.1.trans mi.1, hl.1.2.2.2.trans mi.2⟩, Ims_hld hl ims⟩
  refine Pst_rem (K := K) w.1.1 w.2.2.2.1 w.2.2.2.2.1 ez hp20 ha ((f2.1 57 (by decide)).trans e57) ?_ ?_ old
  · rw [g55]
    exact rows
  · rw [g55]
    exact row
theorem sim_day {n : Nat} {t c h s w m : OV} {pp pr : Nat → OV} {im : Nat → Option IMG} (sim : Sim t c h s pp pr n im m) : PX8_day t c h s w pp pr n (fun r c' s' w' pp' pr' => PX9_day m (fun r' m' => r = r' ∧ Sim t c' h s' pp' pr' n im m')) := by
  have sim0 := sim
  obtain ⟨⟨S, T, Q, K, d, w0⟩, tap, rl, mi, ims⟩ := sim
  have w0' := w0
  obtain ⟨hok, hv, hr, so, hd, sr, td, nm, fc, dw, ⟨a, p, e6, e5, ha, hp20, e57, old⟩⟩ := w0'
  have lim := hok.1
  unfold PX8_day
  rcases hv.2.2.2.2.2.2 with ⟨t0, n0⟩ | ⟨t1, n1⟩
  · refine br_t t0 ?_
    unfold PX9_day
    refine mp_isHill hv hr ?_
    exact br_t t0 ⟨rfl, sim0⟩
  · have tn : ¬ h.1 0 = 0 := by rw [t1]; decide
    refine br_f tn ?_
    rw [so.1]
    by_cases c999 : d = 999
    · subst c999
      refine br_f (by decide) ?_
      unfold PX9_day
      refine mp_isHill hv hr ?_
      refine br_f tn (br_nt ?_ ⟨rfl, sim0⟩)
      exact sr.1.2.2.trans so.1
    · refine br_t (nI_lt (b := 999) (by omega) (by omega)) (cp_remember hp20 ha e5 e6 (fun z ez => ?_))
      refine cp_ruleInForce (c := remC c p a) fc rl (fun o ho eo => ?_)
      have ref : ∀ pr', PrEq pr pr' → PX9_day m (fun r' m' => pasN (rhoS c pr) h S T Q s = r' ∧ Sim t (remC c p a) h (passS (rhoS c pr) h S T Q K False s) (va_up pp p z) pr' n im m') := by
        intro pr' q
        unfold PX9_day
        refine mp_isHill hv hr ?_
        refine br_f tn (br_nf ?_ ?_)
        · rw [show m.2.1 1 ((8 : Int32)).toNatClampNeg = nI d from sr.1.2.2.trans so.1]
          exact fun e => c999 (nI_inj (b := 999) (by omega) (by omega) e)
        · refine mp_keepsAct lim ha e57 sr (fun m1 f1 e571 rows row => ?_)
          have g50 : m1.1 50 = 0 := (f1.1 50 (by decide)).trans mi.2
          refine mp_goes lim hv so (HRel_fr f1 (by decide) (by decide) hr) (SRel_fr f1 (by decide) (by decide) sr) (RuR_fr f1 (by decide) (by decide) (RuR_of fc rl)) (Or.inl g50) (fun m2 f2 sr2 => ⟨rfl, ?_⟩)
          rw [show (m1.1 50 = 1) = False from by rw [g50]; exact eq_false (by decide)] at sr2
          exact Sim_act w0 tap rl mi ims ez hp20 ha old f1 e571 rows row (Fr_mono f2 (by decide) (by decide) (by decide) (by decide)) sr2 (Sok_pass lim.1 lim.2.2.1 so) (by omega) q
      have eF : (¬ (0 : Int32) = 0) = False := eq_false (by decide)
      have eo' : rhoO pr o = rhoS c pr := eo
      refine ⟨fun en => ?_, fun j ej => ?_⟩
      · subst en
        refine cp_pass_N hok (fun w2 => ?_)
        rw [eF, show (none : Option OV) = rhoS c pr from eo']
        exact ref pr (PrEq_refl pr)
      · subst ej
        refine cp_pass_R hok (rl.2.2.2 j (ho j rfl)).1 (fun w2 f2 => ?_)
        rw [eF, show some (pr j) = rhoS c pr from eo']
        exact ref _ (PrEq_up j f2)
theorem sim_hide {n : Nat} {t c h s m : OV} {pp pr : Nat → OV} {im : Nat → Option IMG} {x : Int32} (sim : Sim t c h s pp pr n im m) : PX8_hide t c h s pp x (fun r c' s' pp' => PX9_hide m x (fun r' m' => r = r' ∧ Sim t c' h s' pp' pr n im m')) := by
  have sim0 := sim
  obtain ⟨⟨S, T, Q, K, d, w0⟩, tap, rl, mi, ims⟩ := sim
  have w0' := w0
  obtain ⟨hok, hv, hr, so, hd, sr, td, nm, fc, dw, ⟨a, p, e6, e5, ha, hp20, e57, old⟩⟩ := w0'
  have lim := hok.1
  unfold PX8_hide
  refine cp_hasStone lim.1 hok.2.1 ?_
  have e7 : m.2.1 1 ((7 : Int32)).toNatClampNeg = s.1 2 := sr.1.2.1
  by_cases ix : isIx x S
  · rw [zb_t ix]
    refine br_f (by decide) (br_nc (fun ne => cp_remember hp20 ha e5 e6 (fun z ez => ?_)) (fun eq => ?_))
    · rintro _ rfl _ rfl
      unfold PX9_hide
      refine mp_isStone lim.1 hr.1.2.2.1 ?_
      rw [zb_t ix, e7]
      refine br_f (by decide) (br_nf ne (mp_keepsAct lim ha e57 sr (fun m1 f1 e571 rows row => ?_)))
      have sr1 := SRel_fr f1 (by decide) (by decide) sr
      rintro _ rfl _ rfl
      refine ⟨sr1.1.2.1.symm, Sim_act w0 tap rl mi ims ez hp20 ha old f1 e571 rows row (Fr_sc (by decide) Fr_refl) (SRel_tin x sr1) (Sok_tin (Or.inr ix) so) hd (PrEq_refl pr)⟩
    · unfold PX9_hide
      refine mp_isStone lim.1 hr.1.2.2.1 ?_
      rw [zb_t ix, e7]
      exact br_f (by decide) (br_nt eq ⟨rfl, sim0⟩)
  · rw [zb_f ix]
    refine br_t rfl ?_
    unfold PX9_hide
    refine mp_isStone lim.1 hr.1.2.2.1 ?_
    rw [zb_f ix]
    exact br_t rfl ⟨rfl, sim0⟩
theorem sim_rest {n : Nat} {t c h s m : OV} {pp pr : Nat → OV} {im : Nat → Option IMG} {x : Int32} (sim : Sim t c h s pp pr n im m) : PX8_rest t c h s pp x (fun r c' s' pp' => PX9_rest m x (fun r' m' => r = r' ∧ Sim t c' h s' pp' pr n im m')) := by
  have sim0 := sim
  obtain ⟨⟨S, T, Q, K, d, w0⟩, tap, rl, mi, ims⟩ := sim
  have w0' := w0
  obtain ⟨hok, hv, hr, so, hd, sr, td, nm, fc, dw, ⟨a, p, e6, e5, ha, hp20, e57, old⟩⟩ := w0'
  have lim := hok.1
  have l1 := lim.1
  unfold PX8_rest
  refine cp_hasStone lim.1 hok.2.1 ?_
  by_cases ix : isIx x S
  · rw [zb_t ix]
    have ix' := ix
    obtain ⟨k, hk, rfl⟩ := ix'
    have vx : vp_in (nI k) 10 := vp_in_q (by omega) (by omega)
    have ek : (nI k).toNatClampNeg = k := nI_31 (by omega)
    rw [ek]
    refine br_f (by decide) ⟨vx, br_nc (fun ne => cp_remember hp20 ha e5 e6 (fun z ez => ⟨vx, ?_⟩)) (fun eq => ?_)⟩
    · rintro _ rfl
      refine ⟨vx, ?_⟩
      rintro _ rfl
      unfold PX9_rest
      refine mp_isStone lim.1 hr.1.2.2.1 ?_
      rw [zb_t ix, ek, sr.2.1 k hk]
      refine br_f (by decide) ⟨vx, br_nf ne (mp_keepsAct lim ha e57 sr (fun m1 f1 e571 rows row => ⟨vx, ?_⟩))⟩
      have sr1 := SRel_fr f1 (by decide) (by decide) sr
      rintro _ rfl
      refine ⟨vx, ?_⟩
      rintro _ rfl
      exact ⟨(sr1.2.1 k hk).symm, Sim_act w0 tap rl mi ims ez hp20 ha old f1 e571 rows row (Fr_sa (by decide) (by decide) Fr_refl) (SRel_5 k 0 sr1) (Sok_wear k ⟨0, by omega, rfl⟩ so) hd (PrEq_refl pr)⟩
    · unfold PX9_rest
      refine mp_isStone lim.1 hr.1.2.2.1 ?_
      rw [zb_t ix, ek, sr.2.1 k hk]
      exact br_f (by decide) ⟨vx, br_nt eq ⟨rfl, sim0⟩⟩
  · rw [zb_f ix]
    refine br_t rfl ?_
    unfold PX9_rest
    refine mp_isStone lim.1 hr.1.2.2.1 ?_
    rw [zb_f ix]
    exact br_t rfl ⟨rfl, sim0⟩
theorem sim_forget {n : Nat} {t c h s m : OV} {pp pr : Nat → OV} {im : Nat → Option IMG} {x : Int32} (sim : Sim t c h s pp pr n im m) : PX8_forget t c h s pp x (fun r c' s' pp' => PX9_forget m x (fun r' m' => r = r' ∧ Sim t c' h s' pp' pr n im m')) := by
  have sim0 := sim
  obtain ⟨⟨S, T, Q, K, d, w0⟩, tap, rl, mi, ims⟩ := sim
  have w0' := w0
  obtain ⟨hok, hv, hr, so, hd, sr, td, nm, fc, dw, ⟨a, p, e6, e5, ha, hp20, e57, old⟩⟩ := w0'
  have lim := hok.1
  have l3 := lim.2.2.1
  unfold PX8_forget
  refine cp_hasSeeker l3 hok.2.2.2.1 ?_
  by_cases ix : isIx x Q
  · rw [zb_t ix]
    have ix' := ix
    obtain ⟨k, hk, rfl⟩ := ix'
    have vx : vp_in (nI k) 4 := vp_in_q (by omega) (by omega)
    have ek : (nI k).toNatClampNeg = k := nI_31 (by omega)
    rw [ek]
    refine br_f (by decide) ⟨vx, br_nc (fun ne => cp_remember hp20 ha e5 e6 (fun z ez => ⟨vx, ?_⟩)) (fun eq => ?_)⟩
    · rintro _ rfl
      refine ⟨vx, ?_⟩
      rintro _ rfl
      unfold PX9_forget
      refine mp_isSeeker l3 hr.1.2.2.2.2.1 ?_
      rw [zb_t ix, ek, (sr.2.2.2 k hk).2.1]
      refine br_f (by decide) ⟨vx, br_nf ne (mp_keepsAct lim ha e57 sr (fun m1 f1 e571 rows row => ⟨vx, ?_⟩))⟩
      have sr1 := SRel_fr f1 (by decide) (by decide) sr
      rintro _ rfl
      refine ⟨vx, ?_⟩
      rintro _ rfl
      exact ⟨((sr1.2.2.2 k hk).2.1).symm, Sim_act w0 tap rl mi ims ez hp20 ha old f1 e571 rows row (Fr_sa (by decide) (by decide) Fr_refl) (SRel_11 k (-1) sr1) (Sok_found hk (Or.inl rfl) so) hd (PrEq_refl pr)⟩
    · unfold PX9_forget
      refine mp_isSeeker l3 hr.1.2.2.2.2.1 ?_
      rw [zb_t ix, ek, (sr.2.2.2 k hk).2.1]
      exact br_f (by decide) ⟨vx, br_nt eq ⟨rfl, sim0⟩⟩
  · rw [zb_f ix]
    refine br_t rfl ?_
    unfold PX9_forget
    refine mp_isSeeker l3 hr.1.2.2.2.2.1 ?_
    rw [zb_f ix]
    exact br_t rfl ⟨rfl, sim0⟩
theorem br_ix {x : Int32} {n : Nat} (hn : n < 5000) {A B : Prop} (hno : ¬ isIx x n → A) (hyes : isIx x n → B) : (x < 0 → A) ∧ (¬ x < 0 → ((nI n ≤ x → A) ∧ (¬ nI n ≤ x → B))) := by
  refine br_c (fun c => hno (fun q => ?_)) (fun c => br_c (fun d => hno (fun q => ?_)) (fun d => hyes ((isIx_iff hn).mpr ⟨Int32.not_lt.mp c, Int32.not_le.mp d⟩)))
  · exact absurd c (Int32.not_lt.mpr ((isIx_iff hn).mp q).1)
  · exact absurd ((isIx_iff hn).mp q).2 (Int32.not_lt.mpr d)
theorem sim_figure {n : Nat} {t c h s m : OV} {pp pr : Nat → OV} {im : Nat → Option IMG} {x : Int32} (sim : Sim t c h s pp pr n im m) : PX8_figure t c h s pp x (fun r c' s' pp' => PX9_figure m x (fun r' m' => r = r' ∧ Sim t c' h s' pp' pr n im m')) := by
  have sim0 := sim
  obtain ⟨⟨S, T, Q, K, d, w0⟩, tap, rl, mi, ims⟩ := sim
  have w0' := w0
  obtain ⟨hok, hv, hr, so, hd, sr, td, nm, fc, dw, ⟨a, p, e6, e5, ha, hp20, e57, old⟩⟩ := w0'
  have lim := hok.1
  unfold PX8_figure
  have e0 : m.2.1 1 ((0 : Int32)).toNatClampNeg = s.1 1 := sr.1.1
  rcases hv.2.2.2.2.2.2 with ⟨t0, n0⟩ | ⟨t1, n1⟩
  · refine br_t t0 ?_
    unfold PX9_figure
    refine mp_isHill hv hr ?_
    exact br_t t0 ⟨rfl, sim0⟩
  · have tn : ¬ h.1 0 = 0 := by rw [t1]; decide
    refine br_f tn ?_
    have ref : ∀ post : Int32 → OV → Prop, (isIx x 100 → ((¬ s.1 1 = x → PX9_keepsAct m (fun v_m8 => (∀ x10 : Int32, x10 = (v_m8.2.1 1 ((0 : Int32)).toNatClampNeg) → (∀ v_m11 : OV, v_m11 = sa v_m8 1 (upd (v_m8.2.1 1) ((0 : Int32)).toNatClampNeg x) → post x10 v_m11)))) ∧ (s.1 1 = x → post (-1) m))) → (¬ isIx x 100 → post (-1) m) → PX9_figure m x post := by
      intro post h1 h2
      unfold PX9_figure
      refine mp_isHill hv hr (br_f tn (mp_inC 100 (by omega) (by decide) ?_))
      by_cases ix : isIx x 100
      · rw [zb_t ix, e0]
        exact br_f (by decide) ⟨(h1 ix).1, (h1 ix).2⟩
      · rw [zb_f ix]
        exact br_t rfl (h2 ix)
    have no : ¬ isIx x 100 → PX9_figure m x (fun r' m' => (-1 : Int32) = r' ∧ Sim t c h s pp pr n im m') := fun ix => ref _ (fun y => absurd y ix) (fun _ => ⟨rfl, sim0⟩)
    refine br_c (fun g => no (fun q => absurd g (Int32.not_lt.mpr ((isIx_iff (n := 100) (by omega)).mp q).1))) (fun g => br_c (fun g2 => no (fun q => ?_)) (fun g2 => ?_))
    · obtain ⟨k, hk, rfl⟩ := q
      exact absurd g2 (Int32.not_lt.mpr (fr_le (b := 99) (by omega) (by omega)))
    · have ix : isIx x 100 := by
        obtain ⟨k, hk, rfl⟩ := nI_of g
        have : k ≤ 99 := by
          have := Int32.not_lt.mp g2
          rw [show (99 : Int32) = nI 99 from rfl, nI_leI (by omega) (by omega)] at this
          exact this
        exact ⟨k, by omega, rfl⟩
      refine br_nc (fun ne => cp_remember hp20 ha e5 e6 (fun z ez => ?_)) (fun eq => ?_)
      · rintro _ rfl _ rfl
        refine ref _ (fun _ => ⟨fun _ => mp_keepsAct lim ha e57 sr (fun m1 f1 e571 rows row => ?_), fun e => absurd e.symm ne⟩) (fun y => absurd ix y)
        have sr1 := SRel_fr f1 (by decide) (by decide) sr
        rintro _ rfl _ rfl
        exact ⟨sr1.1.1.symm, Sim_act w0 tap rl mi ims ez hp20 ha old f1 e571 rows row (Fr_sc (by decide) Fr_refl) (SRel_fig x sr1) ⟨so.1, so.2.1, ix, so.2.2.2⟩ hd (PrEq_refl pr)⟩
      · exact ref _ (fun _ => ⟨fun y => absurd eq.symm y, fun _ => ⟨rfl, sim0⟩⟩) (fun y => absurd ix y)
theorem sim_undo {n : Nat} {t c h s m : OV} {pp pr : Nat → OV} {im : Nat → Option IMG} (sim : Sim t c h s pp pr n im m) : PX8_undo t c s pp (fun r c' s' => PX9_undo m (fun r' m' => r = r' ∧ Sim t c' h s' pp pr n im m')) := by
  have sim0 := sim
  obtain ⟨⟨S, T, Q, K, d, w0⟩, tap, rl, mi, ims⟩ := sim
  have w0' := w0
  obtain ⟨hok, hv, hr, so, hd, sr, td, nm, fc, dw, ⟨a, p, e6, e5, ha, hp20, e57, old⟩⟩ := w0'
  have lim := hok.1
  obtain ⟨l1, l2, l3, l4⟩ := lim
  unfold PX8_undo PX5_takeBack
  by_cases z : a = 0
  · subst z
    refine br_nt e6 (br_t rfl ?_)
    unfold PX9_undo
    exact br_nt e57 ⟨rfl, sim0⟩
  · obtain ⟨b, rfl⟩ : ∃ b, a = b + 1 := ⟨a - 1, by omega⟩
    have n57 : ¬ nI (b + 1) = 0 := nI_ne0 (by omega) (by omega)
    refine br_nf (by rw [e6]; exact n57) ?_
    rw [e5, (md20 p hp20).2]
    rintro _ rfl _ rfl
    rw [si_at, nI_31 (show (p + 19) % 20 < 1000 by omega)]
    refine ⟨vp_in_q (by omega) (by omega), by omega, cp_copy (fun s' es => ?_)⟩
    rw [show (si c 5 (nI ((p + 19) % 20))).1 6 = nI (b + 1) from e6, nI_dn1]
    rintro _ rfl _ rfl
    refine br_f (by decide) ?_
    rw [si_at]
    unfold PX9_undo
    rw [e57, nI_dn1]
    refine br_nf n57 ?_
    rintro _ rfl _ rfl
    rw [si_at]
    refine mp_movesB (by omega) (fun m2 f2 l2' => ?_)
    have g57 : m2.1 57 = nI b := f2.1 57 (by decide)
    refine ⟨g57.symm, ?_⟩
    have fm : Fr [57, 58, 59] [5, 6, 9, 11, 12, 13] [0, 7, 8] [] m m2 := Fr_trans (Fr_si (by decide) Fr_refl) (Fr_mono f2 (by decide) (by decide) (by decide) (by decide))
    have hl := Hld_fr fm (by decide) (by decide) (by decide)
    have eb : (p + 20 - (b + 1) + b) % 20 = (p + 19) % 20 := by omega
    obtain ⟨ro, d', hd', so'⟩ := old b (by omega)
    rw [eb] at ro so'
    have srn : SRel (pp ((p + 19) % 20)) S T Q m2 := Row_to l1 l2 l3 ro l2'
    refine ⟨⟨S, T, Q, K, d', Scn_mk hok hv ?_ (Sok_eq l1 es so') hd' (SRel_eq l1 l2 l3 es srn) ?_⟩, Tap_hld hl tap, Rls_hld hl rl, ⟨hl.1.2.2.1.trans mi.1, hl.1.2.2.2.trans mi.2⟩, Ims_hld hl ims⟩
    · have st0 := Stat_fr fm (by decide) (by decide) (Stat_of w0)
      exact st0
    · refine ⟨b, (p + 19) % 20, rfl, rfl, by omega, by omega, g57, fun i hi => ?_⟩
      have ei : ((p + 19) % 20 + 20 - b + i) % 20 = (p + 20 - (b + 1) + i) % 20 := by omega
      rw [ei, fm.2.1 55 (by decide) (by decide)]
      exact old i (by omega)
