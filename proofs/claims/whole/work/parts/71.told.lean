/-! 71: the calls: what is told, the tape, images, draws, names -/
theorem sim_stone {n : Nat} {t c h s m : OV} {pp pr : Nat → OV} {im : Nat → Option IMG} {x y : Int32} (sim : Sim t c h s pp pr n im m) : PX8_stone t c h s x y (fun r => PX9_stone m x y (fun r' => r = r')) := by
  obtain ⟨⟨S, T, Q, K, d, w0⟩, tap, rl, mi, ims⟩ := sim
  obtain ⟨hok, hv, hr, so, hd, sr, td, nm, fc, dw, ps⟩ := w0
  have lim := hok.1
  have l1 := lim.1
  have l3 := lim.2.2.1
  unfold PX8_stone
  refine cp_hasStone l1 hok.2.1 ?_
  by_cases ix : isIx x S
  · rw [zb_t ix]
    refine br_nf (by decide) ?_
    have ix' := ix
    obtain ⟨k, hk, rfl⟩ := ix'
    have vx : vp_in (nI k) 10 := vp_in_q (by omega) (by omega)
    have ek : (nI k).toNatClampNeg = k := nI_31 (by omega)
    have ref : ∀ post : Int32 → Prop, ((y = 0 → post (h.2.1 5 k)) ∧ (¬ y = 0 → ((y = 1 → post (h.2.1 6 k)) ∧ (¬ y = 1 → ((y = 2 → post (h.2.1 7 k)) ∧ (¬ y = 2 → ((y = 3 → post (s.2.1 3 k)) ∧ (¬ y = 3 → ((y = 4 → post (tbS (s.2.1 8) k 4)) ∧ (¬ y = 4 → post (-1))))))))))) → PX9_stone m (nI k) y post := by
      intro post hp
      unfold PX9_stone
      refine mp_isStone l1 hr.1.2.2.1 ?_
      rw [zb_t ⟨k, hk, rfl⟩, ek, (hr.2.1 k hk).1, (hr.2.1 k hk).2.1, (hr.2.1 k hk).2.2, sr.2.1 k hk]
      refine br_nf (by decide) ⟨fun e => ⟨vx, hp.1 e⟩, fun e => ⟨fun e1 => ⟨vx, (hp.2 e).1 e1⟩, fun e1 => ⟨fun e2 => ⟨vx, ((hp.2 e).2 e1).1 e2⟩, fun e2 => ⟨fun e3 => ⟨vx, (((hp.2 e).2 e1).2 e2).1 e3⟩, fun e3 => ⟨fun e4 => ?_, fun e4 => ((((hp.2 e).2 e1).2 e2).2 e3).2 e4⟩⟩⟩⟩⟩
      refine mp_whoTried l3 hr.1.2.2.2.2.1 ?_
      rw [tbS_congr (g := s.2.1 8) (fun q hq => (sr.2.2.2 q hq).2.2.2), ← tbS_4 l3 (by omega) (fun q a b => (so.2.2.2.2.2 q a b).2)]
      exact ((((hp.2 e).2 e1).2 e2).2 e3).1 e4
    rw [ek]
    refine ⟨fun e => ⟨vx, ref _ (br_t e rfl)⟩, fun e => ⟨fun e1 => ⟨vx, ref _ (br_f e (br_t e1 rfl))⟩, fun e1 => ⟨fun e2 => ⟨vx, ref _ (br_f e (br_f e1 (br_t e2 rfl)))⟩, fun e2 => ⟨fun e3 => ⟨vx, ref _ (br_f e (br_f e1 (br_f e2 (br_t e3 rfl))))⟩, fun e3 => ⟨fun e4 => cp_triedBy (ref _ (br_f e (br_f e1 (br_f e2 (br_f e3 (br_t e4 rfl)))))), fun e4 => ref _ (br_f e (br_f e1 (br_f e2 (br_f e3 (br_f e4 rfl)))))⟩⟩⟩⟩⟩
  · rw [zb_f ix]
    refine br_nt rfl ?_
    unfold PX9_stone
    refine mp_isStone l1 hr.1.2.2.1 ?_
    rw [zb_f ix]
    exact br_nt rfl rfl
theorem sim_seeker {n : Nat} {t c h s m : OV} {pp pr : Nat → OV} {im : Nat → Option IMG} {x y : Int32} (sim : Sim t c h s pp pr n im m) : PX8_seeker t c h s x y (fun r => PX9_seeker m x y (fun r' => r = r')) := by
  obtain ⟨⟨S, T, Q, K, d, w0⟩, tap, rl, mi, ims⟩ := sim
  obtain ⟨hok, hv, hr, so, hd, sr, td, nm, fc, dw, ps⟩ := w0
  have lim := hok.1
  have l3 := lim.2.2.1
  unfold PX8_seeker
  refine cp_hasSeeker l3 hok.2.2.2.1 ?_
  by_cases ix : isIx x Q
  · rw [zb_t ix]
    refine br_nf (by decide) ?_
    have ix' := ix
    obtain ⟨k, hk, rfl⟩ := ix'
    have vx : vp_in (nI k) 4 := vp_in_q (by omega) (by omega)
    have ek : (nI k).toNatClampNeg = k := nI_31 (by omega)
    have ref : ∀ post : Int32 → Prop, ((y = 0 → post (h.2.1 12 k)) ∧ (¬ y = 0 → ((y = 1 → post (h.2.1 13 k)) ∧ (¬ y = 1 → ((y = 2 → post (s.2.1 5 k)) ∧ (¬ y = 2 → ((y = 3 → post (h.2.1 15 k)) ∧ (¬ y = 3 → ((y = 4 → post (s.2.1 6 k)) ∧ (¬ y = 4 → ((y = 5 → post (s.2.1 7 k)) ∧ (¬ y = 5 → ((y = 6 → post (s.2.1 8 k)) ∧ (¬ y = 6 → post (-2))))))))))))))) → PX9_seeker m (nI k) y post := by
      intro post hp
      unfold PX9_seeker
      refine mp_isSeeker l3 hr.1.2.2.2.2.1 ?_
      rw [zb_t ⟨k, hk, rfl⟩, ek, (hr.2.2.1 k hk).1, (hr.2.2.1 k hk).2.1, (hr.2.2.1 k hk).2.2, (sr.2.2.2 k hk).1, (sr.2.2.2 k hk).2.1, (sr.2.2.2 k hk).2.2.1, (sr.2.2.2 k hk).2.2.2]
      exact br_nf (by decide) ⟨fun e => ⟨vx, hp.1 e⟩, fun e => ⟨fun e1 => ⟨vx, (hp.2 e).1 e1⟩, fun e1 => ⟨fun e2 => ⟨vx, ((hp.2 e).2 e1).1 e2⟩, fun e2 => ⟨fun e3 => ⟨vx, (((hp.2 e).2 e1).2 e2).1 e3⟩, fun e3 => ⟨fun e4 => ⟨vx, ((((hp.2 e).2 e1).2 e2).2 e3).1 e4⟩, fun e4 => ⟨fun e5 => ⟨vx, (((((hp.2 e).2 e1).2 e2).2 e3).2 e4).1 e5⟩, fun e5 => ⟨fun e6 => ⟨vx, ((((((hp.2 e).2 e1).2 e2).2 e3).2 e4).2 e5).1 e6⟩, fun e6 => ((((((hp.2 e).2 e1).2 e2).2 e3).2 e4).2 e5).2 e6⟩⟩⟩⟩⟩⟩⟩
    rw [ek]
    exact ⟨fun e => ⟨vx, ref _ (br_t e rfl)⟩, fun e => ⟨fun e1 => ⟨vx, ref _ (br_f e (br_t e1 rfl))⟩, fun e1 => ⟨fun e2 => ⟨vx, ref _ (br_f e (br_f e1 (br_t e2 rfl)))⟩, fun e2 => ⟨fun e3 => ⟨vx, ref _ (br_f e (br_f e1 (br_f e2 (br_t e3 rfl))))⟩, fun e3 => ⟨fun e4 => ⟨vx, ref _ (br_f e (br_f e1 (br_f e2 (br_f e3 (br_t e4 rfl)))))⟩, fun e4 => ⟨fun e5 => ⟨vx, ref _ (br_f e (br_f e1 (br_f e2 (br_f e3 (br_f e4 (br_t e5 rfl))))))⟩, fun e5 => ⟨fun e6 => ⟨vx, ref _ (br_f e (br_f e1 (br_f e2 (br_f e3 (br_f e4 (br_f e5 (br_t e6 rfl)))))))⟩, fun e6 => ref _ (br_f e (br_f e1 (br_f e2 (br_f e3 (br_f e4 (br_f e5 (br_f e6 rfl)))))))⟩⟩⟩⟩⟩⟩⟩
  · rw [zb_f ix]
    refine br_nt rfl ?_
    unfold PX9_seeker
    refine mp_isSeeker l3 hr.1.2.2.2.2.1 ?_
    rw [zb_f ix]
    exact br_nt rfl rfl
theorem sim_thing {n : Nat} {t c h s m : OV} {pp pr : Nat → OV} {im : Nat → Option IMG} {x : Int32} (sim : Sim t c h s pp pr n im m) : PX8_thing t c h s x (fun r => PX9_thing m x (fun r' => r = r')) := by
  obtain ⟨⟨S, T, Q, K, d, w0⟩, tap, rl, mi, ims⟩ := sim
  obtain ⟨hok, hv, hr, so, hd, sr, td, nm, fc, dw, ps⟩ := w0
  have l2 := hok.1.2.1
  have i4 : m.2.1 1 ((4 : Int32)).toNatClampNeg = nI T := hr.1.2.2.2.1
  unfold PX8_thing
  rw [hok.2.2.1]
  refine br_ix (by omega) (fun ix => ?_) (fun ix => ?_)
  · unfold PX9_thing
    rw [i4]
    refine sp_inN (by omega) ?_
    rw [zb_f ix]
    exact br_t rfl rfl
  · have ix' := ix
    obtain ⟨k, hk, rfl⟩ := ix'
    have vx : vp_in (nI k) 6 := vp_in_q (by omega) (by omega)
    have ek : (nI k).toNatClampNeg = k := nI_31 (by omega)
    refine ⟨vx, ?_⟩
    unfold PX9_thing
    rw [i4]
    refine sp_inN (by omega) ?_
    rw [zb_t ix, ek, sr.2.2.1 k hk]
    exact br_f (by decide) ⟨vx, rfl⟩
theorem sim_count {n : Nat} {t c h s m : OV} {pp pr : Nat → OV} {im : Nat → Option IMG} {x : Int32} (sim : Sim t c h s pp pr n im m) : PX8_count t c h s x (fun r => PX9_count m x (fun r' => r = r')) := by
  obtain ⟨⟨S, T, Q, K, d, w0⟩, tap, rl, mi, ims⟩ := sim
  obtain ⟨hok, hv, hr, so, hd, sr, td, ⟨nn, nm7, nm10, nm9, nmk⟩, fc, dw, ⟨a, p, f6, f5, ha, hp20, f57, old⟩⟩ := w0
  have lim := hok.1
  have l3 := lim.2.2.1
  obtain ⟨L, tL, t1, t30, tt⟩ := tap
  unfold PX8_count
  by_cases e0 : x = 0
  · refine br_t e0 ?_
    unfold PX9_count
    exact br_t e0 (sr.1.1.symm)
  by_cases e1 : x = 1
  · refine br_f e0 (br_t e1 ?_)
    unfold PX9_count
    exact br_f e0 (br_t e1 (hr.1.1.symm))
  by_cases e2 : x = 2
  · refine br_f e0 (br_f e1 (br_t e2 ?_))
    unfold PX9_count
    exact br_f e0 (br_f e1 (br_t e2 (hr.1.2.1.symm)))
  by_cases e3 : x = 3
  · refine br_f e0 (br_f e1 (br_f e2 (br_t e3 ?_)))
    unfold PX9_count
    exact br_f e0 (br_f e1 (br_f e2 (br_t e3 (hok.2.1.trans hr.1.2.2.1.symm))))
  by_cases e4 : x = 4
  · refine br_f e0 (br_f e1 (br_f e2 (br_f e3 (br_t e4 ?_))))
    unfold PX9_count
    exact br_f e0 (br_f e1 (br_f e2 (br_f e3 (br_t e4 (hok.2.2.1.trans hr.1.2.2.2.1.symm)))))
  by_cases e5 : x = 5
  · refine br_f e0 (br_f e1 (br_f e2 (br_f e3 (br_f e4 (br_t e5 ?_)))))
    unfold PX9_count
    exact br_f e0 (br_f e1 (br_f e2 (br_f e3 (br_f e4 (br_t e5 (hok.2.2.2.1.trans hr.1.2.2.2.2.1.symm))))))
  by_cases e6 : x = 6
  · refine br_f e0 (br_f e1 (br_f e2 (br_f e3 (br_f e4 (br_f e5 (br_t e6 ?_))))))
    unfold PX9_count
    exact br_f e0 (br_f e1 (br_f e2 (br_f e3 (br_f e4 (br_f e5 (br_t e6 (rl.1.trans rl.2.2.1.symm)))))))
  by_cases e7 : x = 7
  · refine br_f e0 (br_f e1 (br_f e2 (br_f e3 (br_f e4 (br_f e5 (br_f e6 (br_t e7 ?_)))))))
    unfold PX9_count
    exact br_f e0 (br_f e1 (br_f e2 (br_f e3 (br_f e4 (br_f e5 (br_f e6 (br_t e7 (fc.1.symm))))))))
  by_cases e8 : x = 8
  · refine br_f e0 (br_f e1 (br_f e2 (br_f e3 (br_f e4 (br_f e5 (br_f e6 (br_f e7 (br_t e8 ?_))))))))
    unfold PX9_count
    exact br_f e0 (br_f e1 (br_f e2 (br_f e3 (br_f e4 (br_f e5 (br_f e6 (br_f e7 (br_t e8 (sr.1.2.2.symm)))))))))
  by_cases e9 : x = 9
  · refine br_f e0 (br_f e1 (br_f e2 (br_f e3 (br_f e4 (br_f e5 (br_f e6 (br_f e7 (br_f e8 (br_t e9 ?_)))))))))
    unfold PX9_count
    exact br_f e0 (br_f e1 (br_f e2 (br_f e3 (br_f e4 (br_f e5 (br_f e6 (br_f e7 (br_f e8 (br_t e9 (sr.1.2.1.symm))))))))))
  by_cases e10 : x = 10
  · refine br_f e0 (br_f e1 (br_f e2 (br_f e3 (br_f e4 (br_f e5 (br_f e6 (br_f e7 (br_f e8 (br_f e9 (br_t e10 (cp_finderBits ?_)))))))))))
    unfold PX9_count
    refine br_f e0 (br_f e1 (br_f e2 (br_f e3 (br_f e4 (br_f e5 (br_f e6 (br_f e7 (br_f e8 (br_f e9 (br_t e10 (mp_foundBy l3 hr.1.2.2.2.2.1 ?_)))))))))))
    rw [fbS_4 l3 (fun q a b => (so.2.2.2.2.2 q a b).1)]
    exact (fbS_congr (fun q hq => (sr.2.2.2 q hq).2.1)).symm
  by_cases e11 : x = 11
  · refine br_f e0 (br_f e1 (br_f e2 (br_f e3 (br_f e4 (br_f e5 (br_f e6 (br_f e7 (br_f e8 (br_f e9 (br_f e10 (br_t e11 (cp_walkersCome lim.2.2.2 hok.2.2.2.2 ?_))))))))))))
    have ref : ∀ post : Int32 → Prop, post (zb (wlkS h K (s.1 0))) → PX9_count m x post := by
      intro post hp
      unfold PX9_count
      refine br_f e0 (br_f e1 (br_f e2 (br_f e3 (br_f e4 (br_f e5 (br_f e6 (br_f e7 (br_f e8 (br_f e9 (br_f e10 (br_t e11 ?_)))))))))))
      rw [show m.2.1 1 ((8 : Int32)).toNatClampNeg = s.1 0 from sr.1.2.2]
      have e50 : zb (wlkS h K (s.1 0) ∨ m.1 50 = 1) = zb (wlkS h K (s.1 0)) := zb_iff ⟨fun y => y.resolve_right (by rw [mi.2]; decide), Or.inl⟩
      refine mp_doWalk (h := h) lim.2.2.2 hr.1.2.2.2.2.2 hr.2.2.2 (Or.inl mi.2) ?_
      rw [e50]
      by_cases g : wlkS h K (s.1 0)
      · rw [zb_t g] at hp ⊢
        exact br_f (by decide) hp
      · rw [zb_f g] at hp ⊢
        exact br_t rfl hp
    by_cases g : wlkS h K (s.1 0)
    · rw [zb_t g] at ref ⊢
      exact br_f (by decide) (ref _ rfl)
    · rw [zb_f g] at ref ⊢
      exact br_t rfl (ref _ rfl)
  by_cases e12 : x = 12
  · refine br_f e0 (br_f e1 (br_f e2 (br_f e3 (br_f e4 (br_f e5 (br_f e6 (br_f e7 (br_f e8 (br_f e9 (br_f e10 (br_f e11 (br_t e12 ?_))))))))))))
    unfold PX9_count
    exact br_f e0 (br_f e1 (br_f e2 (br_f e3 (br_f e4 (br_f e5 (br_f e6 (br_f e7 (br_f e8 (br_f e9 (br_f e10 (br_f e11 (br_t e12 (nm7.trans nm9.symm)))))))))))))
  by_cases e13 : x = 13
  · refine br_f e0 (br_f e1 (br_f e2 (br_f e3 (br_f e4 (br_f e5 (br_f e6 (br_f e7 (br_f e8 (br_f e9 (br_f e10 (br_f e11 (br_f e12 (br_t e13 ?_)))))))))))))
    unfold PX9_count
    exact br_f e0 (br_f e1 (br_f e2 (br_f e3 (br_f e4 (br_f e5 (br_f e6 (br_f e7 (br_f e8 (br_f e9 (br_f e10 (br_f e11 (br_f e12 (br_t e13 (f6.trans f57.symm))))))))))))))
  by_cases e14 : x = 14
  · refine br_f e0 (br_f e1 (br_f e2 (br_f e3 (br_f e4 (br_f e5 (br_f e6 (br_f e7 (br_f e8 (br_f e9 (br_f e10 (br_f e11 (br_f e12 (br_f e13 (br_t e14 ?_))))))))))))))
    unfold PX9_count
    exact br_f e0 (br_f e1 (br_f e2 (br_f e3 (br_f e4 (br_f e5 (br_f e6 (br_f e7 (br_f e8 (br_f e9 (br_f e10 (br_f e11 (br_f e12 (br_f e13 (br_t e14 (dw.1.symm)))))))))))))))
  by_cases e15 : x = 15
  · refine br_f e0 (br_f e1 (br_f e2 (br_f e3 (br_f e4 (br_f e5 (br_f e6 (br_f e7 (br_f e8 (br_f e9 (br_f e10 (br_f e11 (br_f e12 (br_f e13 (br_f e14 (br_t e15 ?_)))))))))))))))
    unfold PX9_count
    exact br_f e0 (br_f e1 (br_f e2 (br_f e3 (br_f e4 (br_f e5 (br_f e6 (br_f e7 (br_f e8 (br_f e9 (br_f e10 (br_f e11 (br_f e12 (br_f e13 (br_f e14 (br_t e15 (t1.trans t30.symm))))))))))))))))
  refine br_f e0 (br_f e1 (br_f e2 (br_f e3 (br_f e4 (br_f e5 (br_f e6 (br_f e7 (br_f e8 (br_f e9 (br_f e10 (br_f e11 (br_f e12 (br_f e13 (br_f e14 (br_f e15 (?_))))))))))))))))
  unfold PX9_count
  exact br_f e0 (br_f e1 (br_f e2 (br_f e3 (br_f e4 (br_f e5 (br_f e6 (br_f e7 (br_f e8 (br_f e9 (br_f e10 (br_f e11 (br_f e12 (br_f e13 (br_f e14 (br_f e15 (rfl))))))))))))))))
theorem sim_seed {n : Nat} {t c h s m : OV} {pp pr : Nat → OV} {im : Nat → Option IMG} {x : Int32} (sim : Sim t c h s pp pr n im m) : PX8_seed t c x (fun r c' => PX9_seed m x (fun r' m' => r = r' ∧ Sim t c' h s pp pr n im m')) := by
  have sim0 := sim
  obtain ⟨⟨S, T, Q, K, d, w0⟩, tap, rl, mi, ims⟩ := sim
  have w0' := w0
  obtain ⟨hok, hv, hr, so, hd, sr, td, nm, fc, dw, ps⟩ := w0'
  unfold PX8_seed
  refine br_c (fun g => ?_) (fun g => ?_)
  · rintro _ rfl _ rfl
    unfold PX9_seed
    refine br_t g ?_
    rw [show m.2.1 1 ((10 : Int32)).toNatClampNeg = c.1 2 from dw.1]
    rintro _ rfl _ rfl
    have f : Fr [] [] [10] [] m (sa m 1 (upd (m.2.1 1) 10 x)) := Fr_sc (by decide) Fr_refl
    have hl := Hld_fr f (by decide) (by decide) (by decide)
    have nm1 : Nms c Q (sa m 1 (upd (m.2.1 1) 10 x)) := nm
    have td1 : Told h T Q (sa m 1 (upd (m.2.1 1) 10 x)) := td
    have fc1 : Fce n c (sa m 1 (upd (m.2.1 1) 10 x)) := fc
    have ps1 : Pst S T Q c pp (sa m 1 (upd (m.2.1 1) 10 x)) := ps
    exact ⟨rfl, ⟨S, T, Q, K, d, hok, hv, HRel_fr f (by decide) (by decide) hr, so, hd, SRel_fr f (by decide) (by decide) sr, td1, nm1, fc1, ⟨rfl, Int32.not_lt.mpr g⟩, ps1⟩, Tap_hld hl tap, Rls_hld hl rl, mi, Ims_hld hl ims⟩
  · unfold PX9_seed
    exact br_f g ⟨rfl, sim0⟩
theorem sim_force {n : Nat} {t c h s m : OV} {pp pr : Nat → OV} {im : Nat → Option IMG} {x : Int32} (sim : Sim t c h s pp pr n im m) : PX8_force t c x (fun r c' => PX9_force m x (fun r' m' => r = r' ∧ Sim t c' h s pp pr n im m')) := by
  have sim0 := sim
  obtain ⟨⟨S, T, Q, K, d, w0⟩, tap, rl, mi, ims⟩ := sim
  have w0' := w0
  obtain ⟨hok, hv, hr, so, hd, sr, td, nm, fc, dw, ps⟩ := w0'
  have hn := rl.2.1
  have ok_iff : (-1 ≤ x ∧ x ≤ nI n - 1) ↔ (¬ x < -1 ∧ x < nI n) := by
    rw [nI_sub1 (by omega), Int32.not_lt]
  have ref : ∀ post : Int32 → OV → Prop, ((¬ x < -1 ∧ x < nI n) → ∀ x4 : Int32, x4 = (m.2.1 1 ((11 : Int32)).toNatClampNeg) → (∀ v_m5 : OV, v_m5 = sa m 1 (upd (m.2.1 1) ((11 : Int32)).toNatClampNeg x) → post x4 v_m5)) → (¬ (¬ x < -1 ∧ x < nI n) → post (-2) m) → PX9_force m x post := by
    intro post h1 h2
    unfold PX9_force
    rw [rl.2.2.1]
    refine sp_in32 (lo := -1) (by decide) rfl ?_
    by_cases g : (¬ x < -1 ∧ x < nI n)
    · rw [zb_t (ok_iff.mpr g)]
      exact br_nf (by decide) (h1 g)
    · rw [zb_f (fun y => g (ok_iff.mp y))]
      exact br_nt rfl (h2 g)
  unfold PX8_force
  rw [rl.1]
  refine br_c (fun g => ref _ (fun y => absurd g y.1) (fun _ => ⟨rfl, sim0⟩)) (fun g => br_c (fun g2 => ?_) (fun g2 => ref _ (fun y => absurd y.2 g2) (fun _ => ⟨rfl, sim0⟩)))
  rintro _ rfl _ rfl
  refine ref _ (fun y => ?_) (fun y => absurd ⟨g, g2⟩ y)
  rw [show m.2.1 1 ((11 : Int32)).toNatClampNeg = c.1 1 from fc.1]
  rintro _ rfl _ rfl
  have f : Fr [] [] [11] [] m (sa m 1 (upd (m.2.1 1) 11 x)) := Fr_sc (by decide) Fr_refl
  have hl := Hld_fr f (by decide) (by decide) (by decide)
  have nm1 : Nms (si c 1 x) Q (sa m 1 (upd (m.2.1 1) 11 x)) := nm
  have td1 : Told h T Q (sa m 1 (upd (m.2.1 1) 11 x)) := td
  have dw1 : Drw (si c 1 x) (sa m 1 (upd (m.2.1 1) 11 x)) := dw
  have ps1 : Pst S T Q (si c 1 x) pp (sa m 1 (upd (m.2.1 1) 11 x)) := ps
  have fx : x = -1 ∨ isIx x n := by
    by_cases e : x = -1
    · exact Or.inl e
    · refine Or.inr ((isIx_iff (by omega)).mpr ⟨?_, y.2⟩)
      have a1 := Int32.not_lt.mp y.1
      rw [Int32.le_iff_toInt_le] at a1 ⊢
      have e1 : ((-1 : Int32)).toInt = -1 := by decide
      have e0 : ((0 : Int32)).toInt = 0 := by decide
      rw [e1] at a1
      rw [e0]
      have : x.toInt ≠ -1 := fun z => e (i32_eqv (z.trans e1.symm))
      omega
  exact ⟨rfl, ⟨S, T, Q, K, d, hok, hv, HRel_fr f (by decide) (by decide) hr, so, hd, SRel_fr f (by decide) (by decide) sr, td1, nm1, ⟨rfl, fx⟩, dw1, ps1⟩, Tap_hld hl tap, Rls_hld hl rl, mi, Ims_hld hl ims⟩
theorem sim_name {n : Nat} {t c h s m : OV} {pp pr : Nat → OV} {im : Nat → Option IMG} {x y : Int32} (sim : Sim t c h s pp pr n im m) : PX8_name t c h x y (fun r c' => PX9_name m x y (fun r' m' => r = r' ∧ Sim t c' h s pp pr n im m')) := by
  have sim0 := sim
  obtain ⟨⟨S, T, Q, K, d, w0⟩, tap, rl, mi, ims⟩ := sim
  have w0' := w0
  obtain ⟨hok, hv, hr, so, hd, sr, td, ⟨nn, nm7, nm10, nm9, nmk⟩, fc, dw, ps⟩ := w0'
  have l3 := hok.1.2.2.1
  have i9 : m.2.1 1 ((9 : Int32)).toNatClampNeg = nI nn := nm9
  unfold PX8_name
  have no : ∀ (e : ¬ x = -1), (¬ isIx x 61 ∨ ¬ isIx y Q ∨ nn = 10) → PX9_name m x y (fun r' m' => (-2 : Int32) = r' ∧ Sim t c h s pp pr n im m') := by
    intro e cs
    unfold PX9_name
    refine br_nf e ?_
    rw [i9]
    rintro _ rfl
    refine mp_inC 61 (by omega) (by decide) ?_
    by_cases ix : isIx x 61
    · rw [zb_t ix]
      refine br_f (by decide) (mp_isSeeker l3 hr.1.2.2.2.2.1 ?_)
      by_cases iy : isIx y Q
      · rw [zb_t iy]
        refine br_f (by decide) ?_
        rcases cs with g | g | g
        · exact absurd ix g
        · exact absurd iy g
        · rw [g]
          exact br_nt rfl ⟨rfl, sim0⟩
      · rw [zb_f iy]
        exact br_t rfl ⟨rfl, sim0⟩
    · rw [zb_f ix]
      exact br_t rfl ⟨rfl, sim0⟩
  refine br_nc (fun e => ?_) (fun e => ?_)
  · refine br_c (fun g => no e (Or.inl (fun q => absurd g (Int32.not_lt.mpr ((isIx_iff (n := 61) (by omega)).mp q).1)))) (fun g => br_c (fun g2 => no e (Or.inl (fun q => ?_))) (fun g2 => ?_))
    · obtain ⟨k, hk, rfl⟩ := q
      exact absurd g2 (Int32.not_lt.mpr (fr_le (b := 60) (by omega) (by omega)))
    · have ix : isIx x 61 := by
        obtain ⟨k, hk, rfl⟩ := nI_of g
        have := Int32.not_lt.mp g2
        rw [show (60 : Int32) = nI 60 from rfl, nI_leI (by omega) (by omega)] at this
        exact ⟨k, by omega, rfl⟩
      refine cp_hasSeeker l3 hok.2.2.2.1 ?_
      by_cases iy : isIx y Q
      · rw [zb_t iy, nm7]
        refine br_f (by decide) (br_c (fun g3 => ?_) (fun g3 => no e (Or.inr (Or.inr ?_))))
        · have hnn : nn < 10 := (nI_ltI (b := 10) (by omega) (by omega)).mp g3
          rw [nI_31 (show nn < 1000 by omega)]
          refine ⟨vp_in_q (by omega) (by omega), ?_⟩
          rintro _ rfl
          rw [show (sa c 8 (upd (c.2.1 8) nn x)).1 7 = nI nn from nm7, nI_31 (show nn < 1000 by omega)]
          refine ⟨vp_in_q (by omega) (by omega), ?_⟩
          rintro _ rfl
          rw [show (sa (sa c 8 (upd (c.2.1 8) nn x)) 9 (upd ((sa c 8 (upd (c.2.1 8) nn x)).2.1 9) nn y)).1 7 = nI nn from nm7, nI_1]
          rintro _ rfl _ rfl
          unfold PX9_name
          refine br_nf e ?_
          rw [i9]
          rintro _ rfl
          refine mp_inC 61 (by omega) (by decide) ?_
          rw [zb_t ix]
          refine br_f (by decide) (mp_isSeeker l3 hr.1.2.2.2.2.1 ?_)
          rw [zb_t iy, nI_31 (show nn < 1000 by omega)]
          refine br_f (by decide) (br_nf (fun z => absurd (nI_inj (b := 10) (by omega) (by omega) z) (by omega)) ⟨vp_in_q (by omega) (by omega), ?_⟩)
          rintro _ rfl
          refine ⟨vp_in_q (by omega) (by omega), ?_⟩
          rintro _ rfl
          rw [show (sa (sa m 15 (upd (m.2.1 15) nn x)) 16 (upd ((sa m 15 (upd (m.2.1 15) nn x)).2.1 16) nn y)).2.1 1 ((9 : Int32)).toNatClampNeg = nI nn from nm9, nI_1]
          rintro _ rfl _ rfl
          have f : Fr [] [15, 16] [9] [] m (sa (sa (sa m 15 (upd (m.2.1 15) nn x)) 16 (upd ((sa m 15 (upd (m.2.1 15) nn x)).2.1 16) nn y)) 1 (upd ((sa (sa m 15 (upd (m.2.1 15) nn x)) 16 (upd ((sa m 15 (upd (m.2.1 15) nn x)).2.1 16) nn y)).2.1 1) 9 (nI (nn + 1)))) := Fr_sc (by decide) (Fr_sa (by decide) (by decide) (Fr_sa (by decide) (by decide) Fr_refl))
          have hl := Hld_fr f (by decide) (by decide) (by decide)
          have td1 : Told h T Q (sa (sa (sa m 15 (upd (m.2.1 15) nn x)) 16 (upd ((sa m 15 (upd (m.2.1 15) nn x)).2.1 16) nn y)) 1 (upd ((sa (sa m 15 (upd (m.2.1 15) nn x)) 16 (upd ((sa m 15 (upd (m.2.1 15) nn x)).2.1 16) nn y)).2.1 1) 9 (nI (nn + 1)))) := td
          refine ⟨rfl, ⟨S, T, Q, K, d, hok, hv, HRel_fr f (by decide) (by decide) hr, so, hd, SRel_fr f (by decide) (by decide) sr, td1, ⟨nn + 1, rfl, by omega, rfl, fun k hk => ?_⟩, fc, dw, ps⟩, Tap_hld hl tap, Rls_hld hl rl, mi, Ims_hld hl ims⟩
          show upd (m.2.1 15) nn x k = upd (c.2.1 8) nn x k ∧ upd (m.2.1 16) nn y k = upd (c.2.1 9) nn y k ∧ isIx (upd (c.2.1 8) nn x k) 61 ∧ isIx (upd (c.2.1 9) nn y k) Q
          by_cases z : k = nn
          · rw [z, upd_eq, upd_eq, upd_eq, upd_eq]
            exact ⟨rfl, rfl, ix, iy⟩
          · rw [upd_ne _ _ z, upd_ne _ _ z, upd_ne _ _ z, upd_ne _ _ z]
            exact nmk k (by omega)
        · have : ¬ nn < 10 := fun z => g3 (nI_lt (b := 10) z (by omega))
          omega
      · rw [zb_f iy]
        exact br_t rfl (no e (Or.inr (Or.inl iy)))
  · rintro _ rfl
    unfold PX9_name
    refine br_nt e ?_
    rintro _ rfl
    have f : Fr [] [] [9] [] m (sa m 1 (upd (m.2.1 1) 9 0)) := Fr_sc (by decide) Fr_refl
    have hl := Hld_fr f (by decide) (by decide) (by decide)
    have td1 : Told h T Q (sa m 1 (upd (m.2.1 1) 9 0)) := td
    exact ⟨rfl, ⟨S, T, Q, K, d, hok, hv, HRel_fr f (by decide) (by decide) hr, so, hd, SRel_fr f (by decide) (by decide) sr, td1, ⟨0, rfl, by omega, rfl, fun k hk => absurd hk (Nat.not_lt_zero k)⟩, fc, dw, ps⟩, Tap_hld hl tap, Rls_hld hl rl, mi, Ims_hld hl ims⟩
