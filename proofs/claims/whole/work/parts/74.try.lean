/-! 74: trials: ahead, today, worth -/
/-- the reference on trial: what it keeps is m's, what it goes on with is z -/
def TrI (m : OV) (ρ : Option OV) (h : OV) (S T Q K : Nat) (z m2 : OV) : Prop := Kp m m2 ∧ HRel h S T Q K m2 ∧ SRel z S T Q m2 ∧ RuR ρ m2 ∧ m2.1 50 = 0
theorem TrI_eq {m h z z' m2 : OV} {ρ : Option OV} {S T Q K : Nat} (lim : Lim S T Q K) (e : SEq z z') (r : TrI m ρ h S T Q K z m2) : TrI m ρ h S T Q K z' m2 := ⟨r.1, r.2.1, SRel_eq lim.1 lim.2.1 lim.2.2.1 e r.2.2.1, r.2.2.2⟩
theorem tr_keep {n : Nat} {t c h s m : OV} {pp pr : Nat → OV} {S T Q K d : Nat} (w : Scn n c h s pp m S T Q K d) (rl : Rls n t pr m) (m50 : m.1 50 = 0) {post : OV → Prop} (hp : ∀ m1, TrI m (rhoS c pr) h S T Q K s m1 → post m1) : PX9_keepsAll m post := mp_keep (fun m1 k ag e50 => hp m1 ⟨k, HRel_ag w.1.1 ag w.2.2.1, SRel_ag w.1.1 ag w.2.2.2.2.2.1, RuR_kp k ag (RuR_of w.2.2.2.2.2.2.2.2.1 rl), e50.trans m50⟩)
theorem tr_goes {m h z m1 : OV} {ρ : Option OV} {S T Q K d : Nat} (lim : Lim S T Q K) (hv : Hv h S Q) (so : Sok z S Q d d) (r : TrI m ρ h S T Q K z m1) {post : Int32 → OV → Prop} (hp : ∀ m2, TrI m ρ h S T Q K (passS ρ h S T Q K False z) m2 → post (pasN ρ h S T Q z) m2) : PX9_goes m1 post := by
  obtain ⟨k, hr, sr, ru, e50⟩ := r
  refine mp_goes lim hv so hr sr ru (Or.inl e50) (fun m2 f2 sr2 => hp m2 ⟨Kp_fr k f2 (by decide) (by decide) (by decide) (by decide), HRel_fr f2 (by decide) (by decide) hr, ?_, RuR_fr f2 (by decide) (by decide) ru, (f2.1 50 (by decide)).trans e50⟩)
  rw [show (m1.1 50 = 1) = False from by rw [e50]; exact eq_false (by decide)] at sr2
  exact sr2
theorem tr_goFor {m h z m1 : OV} {ρ : Option OV} {S T Q K d N : Nat} (lim : Lim S T Q K) (hv : Hv h S Q) (so : Sok z S Q d d) (hN : N < 1000) (r : TrI m ρ h S T Q K z m1) {post : OV → Prop} (hp : ∀ m2, TrI m ρ h S T Q K (daysS ρ h S T Q K N z) m2 → post m2) : PX9_goFor m1 (nI N) post := by
  obtain ⟨k, hr, sr, ru, e50⟩ := r
  exact mp_goFor lim hv so hr sr ru e50 hN (fun m2 f2 sr2 => hp m2 ⟨Kp_fr k f2 (by decide) (by decide) (by decide) (by decide), HRel_fr f2 (by decide) (by decide) hr, sr2, RuR_fr f2 (by decide) (by decide) ru, (f2.1 50 (by decide)).trans e50⟩)
theorem tr_back {n : Nat} {t c h s m m2 : OV} {pp pr : Nat → OV} {S T Q K d : Nat} (w : Scn n c h s pp m S T Q K d) (rl : Rls n t pr m) (m50 : m.1 50 = 0) (k : Kp m m2) (e50 : m2.1 50 = 0) {post : OV → Prop} (hp : ∀ m3, AG m m3 → Hld m m3 → TrI m (rhoS c pr) h S T Q K s m3 → post m3) : PX9_laysBack m2 post := mp_lay k (fun m3 k3 ag e => hp m3 ag (Kp_hld k3 ((e.trans e50).trans m50.symm)) ⟨k3, HRel_ag w.1.1 ag w.2.2.1, SRel_ag w.1.1 ag w.2.2.2.2.2.1, RuR_kp k3 ag (RuR_of w.2.2.2.2.2.2.2.2.1 rl), e.trans e50⟩)
theorem i32_m1 {x : Int32} (a : -1 ≤ x) (b : ¬ x = -1) : ¬ x < 0 := by
  rw [Int32.le_iff_toInt_le] at a
  rw [Int32.lt_iff_toInt_lt]
  have e1 : ((-1 : Int32)).toInt = -1 := by decide
  have e0 : ((0 : Int32)).toInt = 0 := by decide
  rw [e1] at a
  rw [e0]
  have : x.toInt ≠ -1 := fun z => b (i32_eqv (z.trans e1.symm))
  omega
theorem ix_le {x : Int32} {n : Nat} (hn : n < 5000) (a : ¬ x < 0) (b : x ≤ nI n) : ∃ k, k ≤ n ∧ x = nI k := by
  obtain ⟨k, hk, rfl⟩ := nI_of a
  exact ⟨k, (nI_leI (by omega) (by omega)).mp b, rfl⟩
theorem sim_ahead {n : Nat} {t c h s w z m : OV} {pp pr : Nat → OV} {im : Nat → Option IMG} {a1 a2 a3 : Int32} (sim : Sim t c h s pp pr n im m) : PX8_ahead t c h s w z pr n a1 a2 a3 (fun r w' z' pr' => PX9_ahead m a1 a2 a3 (fun r' m' => r = r' ∧ Sim t c h s pp pr' n im m')) := by
  have sim0 := sim
  obtain ⟨⟨S, T, Q, K, d, w0⟩, tap, rl, mi, ims⟩ := sim
  have w0' := w0
  obtain ⟨hok, hv, hr, so, hd, sr, td, nm, fc, dw, ps⟩ := w0'
  have lim := hok.1
  have l1 := lim.1
  have l3 := lim.2.2.1
  -- the reference by cases of what is asked
  have ref : ∀ post : Int32 → OV → Prop, (¬ (a3 = 0 ∨ (a3 = 1 ∧ isIx a1 S) ∨ (a3 = 2 ∧ isIx a1 Q)) → PX9_ahead_b35 post 0 a1 a2 a3 m) → ((a3 = 0 ∨ (a3 = 1 ∧ isIx a1 S) ∨ (a3 = 2 ∧ isIx a1 Q)) → PX9_ahead_b35 post 1 a1 a2 a3 m) → PX9_ahead m a1 a2 a3 post := by
    intro post h0 h1
    unfold PX9_ahead
    refine br_c (fun e => h1 (Or.inl e)) (fun e => ?_)
    have b17 : (a3 = 1 → ¬ isIx a1 S) → PX9_ahead_b17 post a1 a2 a3 m := by
      intro ns
      unfold PX9_ahead_b17
      refine br_nc (fun e2 => h0 (fun y => ?_)) (fun e2 => mp_isSeeker l3 hr.1.2.2.2.2.1 ?_)
      · rcases y with y | y | y
        · exact e y
        · exact ns y.1 y.2
        · exact e2 y.1
      · by_cases iq : isIx a1 Q
        · rw [zb_t iq]
          exact br_f (by decide) (h1 (Or.inr (Or.inr ⟨e2, iq⟩)))
        · rw [zb_f iq]
          refine br_t rfl (h0 (fun y => ?_))
          rcases y with y | y | y
          · exact e y
          · exact ns y.1 y.2
          · exact iq y.2
    refine br_nc (fun e1 => b17 (fun y => absurd y e1)) (fun e1 => mp_isStone l1 hr.1.2.2.1 ?_)
    by_cases is : isIx a1 S
    · rw [zb_t is]
      exact br_nf (by decide) (h1 (Or.inr (Or.inl ⟨e1, is⟩)))
    · rw [zb_f is]
      exact br_nt rfl (b17 (fun _ => is))
  have no0 : ∀ post : Int32 → OV → Prop, post (-2) m → PX9_ahead_b35 post 0 a1 a2 a3 m := by
    intro post hp
    unfold PX9_ahead_b35
    refine mp_isHill hv hr ?_
    exact br_c (fun _ => hp) (fun _ => br_t rfl hp)
  have noR : (h.1 0 = 0 ∨ ¬ isIx a2 101) → ∀ post : Int32 → OV → Prop, post (-2) m → PX9_ahead m a1 a2 a3 post := by
    intro y post hp
    refine ref post (fun _ => no0 post hp) (fun _ => ?_)
    unfold PX9_ahead_b35
    refine mp_isHill hv hr ?_
    refine br_c (fun _ => hp) (fun q => br_f (by decide) (mp_inC 101 (by omega) (by decide) ?_))
    rw [zb_f (y.resolve_left q)]
    exact br_nt rfl hp
  unfold PX8_ahead
  refine br_c (fun t0 => noR (Or.inl t0) _ ⟨rfl, sim0⟩) (fun tn => br_c (fun g => noR (Or.inr (fun q => absurd g (Int32.not_lt.mpr ((isIx_iff (n := 101) (by omega)).mp q).1))) _ ⟨rfl, sim0⟩) (fun g => br_c (fun g2 => ?_) (fun g2 => noR (Or.inr (fun q => ?_)) _ ⟨rfl, sim0⟩)))
  · obtain ⟨N, hN, rfl⟩ := ix_le (n := 100) (by omega) g g2
    refine cp_copy (fun z1 ez => cp_goOn (by omega) hok fc rl (fun w' pr' q => ?_))
    have so1 := Sok_eq l1 ez so
    have simq : ∀ m3, AG m m3 → Hld m m3 → Sim t c h s pp pr' n im m3 := fun m3 a b => Sim_keep q a b sim0
    have yes : ∀ post : Int32 → OV → Prop, (∀ m2, TrI m (rhoS c pr) h S T Q K (daysS (rhoS c pr) h S T Q K N z1) m2 → ((¬ a3 = ((0 : Int32)) → ((¬ a3 = ((1 : Int32)) → (vp_in a1 4 ∧ PX9_ahead_b107 post (m2.2.1 11 a1.toNatClampNeg) m2)) ∧ (a3 = ((1 : Int32)) → (vp_in a1 10 ∧ PX9_ahead_b107 post (m2.2.1 5 a1.toNatClampNeg) m2)))) ∧ (a3 = ((0 : Int32)) → PX9_ahead_b107 post (m2.2.1 1 ((7 : Int32)).toNatClampNeg) m2))) → PX9_ahead_b35 post 1 a1 (nI N) a3 m := by
      intro post hp
      unfold PX9_ahead_b35
      refine mp_isHill hv hr ?_
      refine br_f tn (br_f (by decide) (mp_inC 101 (by omega) (by decide) ?_))
      rw [zb_t ⟨N, by omega, rfl⟩]
      refine br_nf (by decide) (tr_keep w0 rl mi.2 (fun m1 r1 => tr_goFor lim hv so1 (by omega) (TrI_eq lim ez r1) (fun m2 r2 => hp m2 r2)))
    have fin : ∀ (v : Int32) m2, TrI m (rhoS c pr) h S T Q K (daysS (rhoS c pr) h S T Q K N z1) m2 → ∀ v', v' = v → PX9_ahead_b107 (fun r' m' => v = r' ∧ Sim t c h s pp pr' n im m') v' m2 := by
      intro v m2 r2 v' e
      unfold PX9_ahead_b107
      exact tr_back w0 rl mi.2 r2.1 r2.2.2.2.2 (fun m3 ag hl _ => ⟨e.symm, simq m3 ag hl⟩)
    have noB : ¬ (a3 = 0 ∨ (a3 = 1 ∧ isIx a1 S) ∨ (a3 = 2 ∧ isIx a1 Q)) → PX9_ahead m a1 (nI N) a3 (fun r' m' => (-2 : Int32) = r' ∧ Sim t c h s pp pr' n im m') := fun y => ref _ (fun _ => no0 _ ⟨rfl, Sim_pr q sim0⟩) (fun y' => absurd y' y)
    have b81 : ¬ a3 = 0 → (a3 = 1 → ¬ isIx a1 S) → PX8_ahead_b81 t c h s n (fun r w' z' pr' => PX9_ahead m a1 (nI N) a3 (fun r' m' => r = r' ∧ Sim t c h s pp pr' n im m')) a1 a3 w' (daysS (rhoS c pr) h S T Q K N z1) pr' := by
      intro e0 ns
      unfold PX8_ahead_b81
      refine br_nc (fun e2 => noB (fun y => ?_)) (fun e2 => cp_hasSeeker l3 hok.2.2.2.1 ?_)
      · rcases y with y | y | y
        · exact e0 y
        · exact ns y.1 y.2
        · exact e2 y.1
      · by_cases iq : isIx a1 Q
        · rw [zb_t iq]
          have iq' := iq
          obtain ⟨k, hk, rfl⟩ := iq'
          have vx : vp_in (nI k) 4 := vp_in_q (by omega) (by omega)
          have ek : (nI k).toNatClampNeg = k := nI_31 (by omega)
          rw [ek]
          refine br_f (by decide) ⟨vx, ref _ (fun y => absurd (Or.inr (Or.inr ⟨e2, iq⟩)) y) (fun _ => yes _ (fun m2 r2 => ?_))⟩
          rw [ek]
          exact br_nf e0 (br_nf (by rw [e2]; decide) ⟨vx, fin _ m2 r2 _ (r2.2.2.1.2.2.2 k hk).2.1⟩)
        · rw [zb_f iq]
          refine br_t rfl (noB (fun y => ?_))
          rcases y with y | y | y
          · exact e0 y
          · exact ns y.1 y.2
          · exact iq y.2
    refine br_nc (fun e0 => br_nc (fun e1 => b81 e0 (fun y => absurd y e1)) (fun e1 => cp_hasStone l1 hok.2.1 ?_)) (fun e0 => ?_)
    · by_cases is : isIx a1 S
      · rw [zb_t is]
        have is' := is
        obtain ⟨k, hk, rfl⟩ := is'
        have vx : vp_in (nI k) 10 := vp_in_q (by omega) (by omega)
        have ek : (nI k).toNatClampNeg = k := nI_31 (by omega)
        rw [ek]
        refine br_f (by decide) ⟨vx, ref _ (fun y => absurd (Or.inr (Or.inl ⟨e1, is⟩)) y) (fun _ => yes _ (fun m2 r2 => ?_))⟩
        rw [ek]
        exact br_nf e0 (br_nt e1 ⟨vx, fin _ m2 r2 _ (r2.2.2.1.2.1 k hk)⟩)
      · rw [zb_f is]
        exact br_t rfl (b81 e0 (fun _ => is))
    · exact ref _ (fun y => absurd (Or.inl e0) y) (fun _ => yes _ (fun m2 r2 => br_nt e0 (fin _ m2 r2 _ r2.2.2.1.1.2.1)))
  · obtain ⟨k, hk, rfl⟩ := q
    exact g2 (fr_le (b := 100) (by omega) (by omega))
theorem sim_today {n : Nat} {t c h s w z m : OV} {pp pr : Nat → OV} {im : Nat → Option IMG} {x y : Int32} (sim : Sim t c h s pp pr n im m) : PX8_today t c h s w z pr n x y (fun r w' z' pr' => PX9_today m x y (fun r' m' => r = r' ∧ Sim t c h s pp pr' n im m')) := by
  have sim0 := sim
  obtain ⟨⟨S, T, Q, K, d, w0⟩, tap, rl, mi, ims⟩ := sim
  have w0' := w0
  obtain ⟨hok, hv, hr, so, hd, sr, td, nm, fc, dw, ps⟩ := w0'
  have lim := hok.1
  have l1 := lim.1
  have l3 := lim.2.2.1
  unfold PX8_today
  refine cp_hasSeeker l3 hok.2.2.2.1 ?_
  by_cases ix : isIx x Q
  · rw [zb_t ix]
    refine br_f (by decide) (br_c (fun g => ?_) (fun g => ?_))
    · have ix' := ix
      obtain ⟨k, hk, rfl⟩ := ix'
      have vx : vp_in (nI k) 4 := vp_in_q (by omega) (by omega)
      have ek : (nI k).toNatClampNeg = k := nI_31 (by omega)
      refine cp_copy (fun z1 ez => ⟨vx, ?_⟩)
      rintro _ rfl
      rw [ek]
      have so1 : Sok (sa z1 6 (upd (z1.2.1 6) k (-1))) S Q d d := Sok_found hk (Or.inl rfl) (Sok_eq l1 ez so)
      have sr1 := SRel_11 k (-1) (SRel_eq l1 lim.2.1 l3 ez sr)
      obtain ⟨k1, k2, k3⟩ := look_ok (ρ := rhoS c pr) (h := h) (s := sa z1 6 (upd (z1.2.1 6) k (-1))) (q := k) l1
      -- the reference, with what it answers
      have ref : ∀ post : Int32 → OV → Prop, (∀ m', Fr [53, 54] [51] [] [48, 49, 52] m m' → LkM (lookS (rhoS c pr) h (sa z1 6 (upd (z1.2.1 6) k (-1))) k S) m' → ((¬ y = ((-1 : Int32)) → (((m'.1 53) ≤ y → post ((-2 : Int32)) m') ∧ (¬ (m'.1 53) ≤ y → (vp_in y 10 ∧ post (m'.2.1 51 y.toNatClampNeg) m')))) ∧ (y = ((-1 : Int32)) → post (m'.1 54) m'))) → PX9_today m (nI k) y post := by
        intro post hp
        unfold PX9_today
        refine mp_isSeeker l3 hr.1.2.2.2.2.1 ?_
        rw [zb_t ix, ek]
        refine br_f (by decide) (br_t g ⟨vx, ?_⟩)
        rintro _ rfl
        refine ⟨vx, ?_⟩
        rintro _ rfl
        have f8 : Fr [] [11] [] [] m (sa m 11 (upd (m.2.1 11) k (-1))) := Fr_sa (by decide) (by decide) Fr_refl
        refine mp_laysLooking lim hv so1 (HRel_fr f8 (by decide) (by decide) hr) sr1 (RuR_fr f8 (by decide) (by decide) (RuR_of fc rl)) hk (fun m9 f9 l9 => ⟨vx, ?_⟩)
        rintro _ rfl
        have e11 : (sa m9 11 (upd (m9.2.1 11) k (m.2.1 11 k))).2.1 11 = m.2.1 11 := by
          rw [sa_at, f9.2.1 11 (by decide) (by decide), sa_at]
          funext j
          by_cases e : j = k
          · rw [e, upd_eq]
          · rw [upd_ne _ _ e, upd_ne _ _ e]
        have fr : Fr [53, 54] [51] [] [48, 49, 52] m (sa m9 11 (upd (m9.2.1 11) k (m.2.1 11 k))) := by
          have f := Fr_trans (Fr_mono f8 (by decide) (by decide) (by decide) (by decide) : Fr [53, 54] [51, 11] [] [48, 49, 52] m _) (Fr_mono f9 (by decide) (by decide) (by decide) (by decide))
          have f' := Fr_sa (k := 11) (f := upd (m9.2.1 11) k (m.2.1 11 k)) (by decide) (by decide) f
          refine ⟨f'.1, fun j hj n => ?_, f'.2.2.1, f'.2.2.2⟩
          by_cases e : j = 11
          · rw [e]; exact e11
          · refine f'.2.1 j (fun q => ?_) n
            rcases List.mem_cons.mp q with r | r
            · exact hj (by rw [r]; decide)
            · exact e (List.mem_singleton.mp r)
        exact hp _ fr l9
      have fin : ∀ (w' : OV) (pr' : Nat → OV), PrEq pr pr' → LkW (lookS (rhoS c pr) h (sa z1 6 (upd (z1.2.1 6) k (-1))) k S) w' → ((¬ y = ((-1 : Int32)) → (((w'.1 3) ≤ y → PX9_today m (nI k) y (fun r' m' => (-2 : Int32) = r' ∧ Sim t c h s pp pr' n im m')) ∧ (¬ (w'.1 3) ≤ y → (vp_in y 10 ∧ PX9_today m (nI k) y (fun r' m' => (w'.2.1 2 y.toNatClampNeg) = r' ∧ Sim t c h s pp pr' n im m'))))) ∧ (y = ((-1 : Int32)) → PX9_today m (nI k) y (fun r' m' => (w'.1 4) = r' ∧ Sim t c h s pp pr' n im m'))) := by
        intro w' pr' q lw
        have simq : ∀ m', Fr [53, 54] [51] [] [48, 49, 52] m m' → Sim t c h s pp pr' n im m' := fun m' f => Sim_keep q (AG_fr f (by decide) (by decide) rfl) (Hld_fr f (by decide) (by decide) (by decide)) sim0
        rw [lw.1]
        refine br_nc (fun e => br_c (fun a => ref _ (fun m' f lm => ?_)) (fun a => ?_)) (fun e => ref _ (fun m' f lm => ?_))
        · rw [lm.1]
          exact br_nf e (br_t a ⟨rfl, simq m' f⟩)
        · obtain ⟨j, hj, ey⟩ := nI_of (i32_m1 g e)
          have jl : j < (lookS (rhoS c pr) h (sa z1 6 (upd (z1.2.1 6) k (-1))) k S).2.1 := by
            rw [ey] at a
            exact (nI_ltI (by omega) (by omega)).mp (Int32.not_le.mp a)
          have vy : vp_in y 10 := by rw [ey]; exact vp_in_q (by omega) (by omega)
          have ej : y.toNatClampNeg = j := by rw [ey]; exact nI_31 (by omega)
          refine ⟨vy, ref _ (fun m' f lm => ?_)⟩
          rw [lm.1]
          refine br_nf e (br_f a ⟨vy, ?_, simq m' f⟩)
          rw [ej, lw.2.2 j jl, lm.2.2 j jl]
        · refine br_nt e ⟨?_, simq m' f⟩
          rw [lw.2.1, lm.2.1]
      refine cp_ruleInForce fc rl (fun o ho eo => ⟨fun en => ?_, fun j ej => ?_⟩)
      · subst en
        have eo' : (none : Option OV) = rhoS c pr := eo
        refine cp_look_N (by omega) l1 hok.2.1 (fun w' lw lf => ?_)
        rw [eo'] at lw
        have := fin w' pr (PrEq_refl pr) lw
        exact this
      · subst ej
        have eo' : some (pr j) = rhoS c pr := eo
        refine cp_look_R (by omega) l1 hok.2.1 (rl.2.2.2 j (ho j rfl)).1 (fun w' f lw lf => ?_)
        rw [eo'] at lw
        exact fin w' _ (PrEq_up j f) lw
    · unfold PX9_today
      refine mp_isSeeker l3 hr.1.2.2.2.2.1 ?_
      rw [zb_t ix]
      exact br_f (by decide) (br_f g ⟨rfl, sim0⟩)
  · rw [zb_f ix]
    refine br_t rfl ?_
    unfold PX9_today
    refine mp_isSeeker l3 hr.1.2.2.2.2.1 ?_
    rw [zb_f ix]
    exact br_t rfl ⟨rfl, sim0⟩
/-- a sum over things -/
def smS (f : Nat → Int32) (n : Nat) : Int32 := itn (fun k x => x + f k) n 0
theorem smS_congr {f g : Nat → Int32} {n : Nat} (h : ∀ k, k < n → f k = g k) : smS f n = smS g n := itn_congr n (fun i hi x => by rw [h i hi])
theorem sim_worth {n : Nat} {t c h s w z m : OV} {pp pr : Nat → OV} {im : Nat → Option IMG} {x : Int32} (sim : Sim t c h s pp pr n im m) : PX8_worth t c h s w z pr n x (fun r w' z' pr' => PX9_worth m x (fun r' m' => r = r' ∧ Sim t c h s pp pr' n im m')) := by
  have sim0 := sim
  obtain ⟨⟨S, T, Q, K, d, w0⟩, tap, rl, mi, ims⟩ := sim
  have w0' := w0
  obtain ⟨hok, hv, hr, so, hd, sr, td, nm, fc, dw, ps⟩ := w0'
  have lim := hok.1
  have l1 := lim.1
  have l2 := lim.2.1
  have noR : (h.1 0 = 0 ∨ ¬ isIx x 101) → PX9_worth m x (fun r' m' => (-1 : Int32) = r' ∧ Sim t c h s pp pr n im m') := by
    intro y
    unfold PX9_worth
    refine mp_isHill hv hr (br_c (fun _ => ⟨rfl, sim0⟩) (fun q => mp_inC 101 (by omega) (by decide) ?_))
    rw [zb_f (y.resolve_left q)]
    exact br_nt rfl ⟨rfl, sim0⟩
  unfold PX8_worth
  refine br_c (fun t0 => noR (Or.inl t0)) (fun tn => br_c (fun g => noR (Or.inr (fun q => absurd g (Int32.not_lt.mpr ((isIx_iff (n := 101) (by omega)).mp q).1)))) (fun g => br_c (fun g2 => ?_) (fun g2 => noR (Or.inr (fun q => ?_)))))
  · obtain ⟨N, hN, rfl⟩ := ix_le (n := 100) (by omega) g g2
    refine cp_copy (fun z1 ez => cp_goOn (by omega) hok fc rl (fun w' pr' q => ?_))
    have so1 := Sok_eq l1 ez so
    refine fr_loop (fun k i x => PX8_worth_L49 t c h s n _ k x (nI i) w' (daysS (rhoS c pr) h S T Q K N z1) pr') (fun k x => x + (daysS (rhoS c pr) h S T Q K N z1).2.1 4 k) T 0 ?_ ?_
    · intro k
      unfold PX8_worth_L49
      rw [hok.2.2.1]
      refine br_t (Int32.le_refl _) ?_
      unfold PX9_worth
      refine mp_isHill hv hr (br_f tn (mp_inC 101 (by omega) (by decide) ?_))
      rw [zb_t ⟨N, by omega, rfl⟩]
      refine br_nf (by decide) (tr_keep w0 rl mi.2 (fun m1 r1 => tr_goFor lim hv so1 (by omega) (TrI_eq lim ez r1) (fun m2 r2 => ?_)))
      refine fr_loop (fun k i x => PX9_worth_L34 _ k x (nI i) m2) (fun k x => x + m2.2.1 6 k) T 0 ?_ ?_
      · intro k
        unfold PX9_worth_L34
        rw [show m2.2.1 1 ((4 : Int32)).toNatClampNeg = nI T from r2.2.1.1.2.2.2.1]
        refine br_t (Int32.le_refl _) (tr_back w0 rl mi.2 r2.1 r2.2.2.2.2 (fun m3 ag hl _ => ⟨?_, Sim_keep q ag hl sim0⟩))
        exact smS_congr (f := (daysS (rhoS c pr) h S T Q K N z1).2.1 4) (g := m2.2.1 6) (fun k hk => (r2.2.2.1.2.2.1 k hk).symm)
      · intro k i hi hw
        unfold PX9_worth_L34
        rw [show m2.2.1 1 ((4 : Int32)).toNatClampNeg = nI T from r2.2.1.1.2.2.2.1, nI_31 (show i < 1000 by omega)]
        refine br_f (fr_nle hi (by omega)) ⟨vp_in_q (by omega) (by omega), ?_⟩
        rintro _ rfl _ rfl
        rw [nI_1]
        exact hw
    · intro k i hi hw
      unfold PX8_worth_L49
      rw [hok.2.2.1, nI_31 (show i < 1000 by omega)]
      refine br_f (fr_nle hi (by omega)) ⟨vp_in_q (by omega) (by omega), ?_⟩
      rintro _ rfl _ rfl
      rw [nI_1]
      exact hw
  · obtain ⟨k, hk, rfl⟩ := q
    exact g2 (fr_le (b := 100) (by omega) (by omega))
