/-! 77: shows -/
def wrn (h z : OV) (t : Nat) : Prop := ¬ z.2.1 3 t < h.1 2
def dnI (S i : Nat) : Int32 := if i = S then -1 else nI (S - 1 - i)
theorem dn_0 : ∀ S, S < 11 → nI S - 1 = dnI S 0 := by decide +kernel
theorem dn_s : ∀ S, S < 11 → ∀ i, i < S → nI (S - 1 - i) + (-1) = dnI S (i + 1) := by decide +kernel
theorem n_m2 {t : Nat} (h : t < 1000) : ¬ nI t = -2 := fun e => by
  have : isIx (-2) 1000 := ⟨t, h, e.symm⟩
  exact absurd ((isIx_iff (by omega)).mp this).1 (by decide)
theorem mp_showsDay {m h z m1 : OV} {ρ : Option OV} {S T Q K d : Nat} {K32 : Int32 → Int32 → Int32 → Int32 → OV → Prop} {post : Int32 → OV → Prop} {x day : Int32} (lim : Lim S T Q K) (hv : Hv h S Q) (so : Sok z S Q d d) (r : TrI m ρ h S T Q K z m1) (h0 : (∀ t, t < S → ¬ wrn h z t) → ∀ m2, TrI m ρ h S T Q K (passS ρ h S T Q K False z) m2 → K32 x (-2) (-2) (day + 1) m2) (h1 : ∀ t, t < S → (∀ j, j < t → ¬ wrn h z j) → wrn h z t → ∀ m2, Kp m m2 → m2.1 50 = 0 → K32 x (nI t) (nI d) (day + 1) m2) : ∃ n, PX9_shows_L56 K32 post n x (-2) day (nI S - 1) m1 := by
  have l1 := lim.1
  rw [dn_0 S (by omega)]
  have e8 : m1.2.1 1 ((8 : Int32)).toNatClampNeg = nI d := r.2.2.1.1.2.2.trans so.1
  refine fr_rel (fun n i (y2 : Int32) => PX9_shows_L56 K32 post n x y2 day (dnI S i) m1) (fun i y2 => (y2 = -2 ∧ ∀ t, S - i ≤ t → t < S → ¬ wrn h z t) ∨ ∃ t, S - i ≤ t ∧ t < S ∧ y2 = nI t ∧ wrn h z t ∧ ∀ j, S - i ≤ j → j < t → ¬ wrn h z j) S (-2) (Or.inl ⟨rfl, fun t a b => absurd b (by omega)⟩) ?_ ?_
  · rintro n y2 cs
    unfold PX9_shows_L56 PX9_shows_b108
    rw [e8]
    refine br_t (by unfold dnI; rw [if_pos rfl]; decide) ?_
    rcases cs with ⟨rfl, no⟩ | ⟨t, _, ht, rfl, wt, bef⟩
    · refine br_nt rfl (tr_goes lim hv so r (fun m2 r2 => ?_))
      rintro _ rfl
      exact h0 (fun t ht => no t (by omega) ht) m2 r2
    · refine br_nf (n_m2 (by omega)) (tr_goes lim hv so r (fun m2 r2 => ?_))
      rintro _ rfl
      exact h1 t ht (fun j hj => bef j (by omega) hj) wt m2 r2.1 r2.2.2.2.2
  · rintro n i y2 hi cs next
    have ed : dnI S i = nI (S - 1 - i) := if_neg (by omega)
    rw [ed]
    unfold PX9_shows_L56
    rw [nI_31 (show S - 1 - i < 1000 by omega), r.2.2.1.2.1 (S - 1 - i) (by omega), show m1.2.1 1 ((1 : Int32)).toNatClampNeg = h.1 2 from r.2.1.1.1]
    refine br_f (nI_pos (by omega)) ⟨vp_in_q (by omega) (by omega), ?_⟩
    rw [dn_s S (by omega) i hi]
    refine br_c (fun g => ?_) (fun g => ?_)
    · rintro _ rfl
      refine next y2 ?_
      rcases cs with ⟨rfl, no⟩ | ⟨t, ht0, ht, rfl, wt, bef⟩
      · refine Or.inl ⟨rfl, fun t a b => ?_⟩
        by_cases e : t = S - 1 - i
        · rw [e]; exact fun y => y g
        · exact no t (by omega) b
      · refine Or.inr ⟨t, by omega, ht, rfl, wt, fun j a b => ?_⟩
        by_cases e : j = S - 1 - i
        · rw [e]; exact fun y => y g
        · exact bef j (by omega) b
    · rintro _ rfl
      exact next _ (Or.inr ⟨S - 1 - i, by omega, by omega, rfl, g, fun j a b => absurd b (by omega)⟩)
theorem mp_showsLoop {m h z m1 : OV} {ρ : Option OV} {S T Q K d : Nat} {post : Int32 → OV → Prop} {x : Int32} (lim : Lim S T Q K) (hv : Hv h S Q) (so : Sok z S Q d d) (r : TrI m ρ h S T Q K z m1) (hn : (∀ j, j < 200 → ∀ t, t < S → ¬ wrn h (daysS ρ h S T Q K j z) t) → ∀ m2, Kp m m2 → m2.1 50 = 0 → PX9_shows_b120 post x (-2) (-2) m2) (hs : ∀ j, j < 200 → ∀ t, t < S → (∀ i, i < j → ∀ t, t < S → ¬ wrn h (daysS ρ h S T Q K i z) t) → (∀ q, q < t → ¬ wrn h (daysS ρ h S T Q K j z) q) → wrn h (daysS ρ h S T Q K j z) t → ∀ m2, Kp m m2 → m2.1 50 = 0 → PX9_shows_b120 post x (nI t) (nI (d + j)) m2) : ∃ n, PX9_shows_L32 post n x (-2) (-2) 0 m1 := by
  have l1 := lim.1
  have l3 := lim.2.2.1
  refine fr_rel (fun k i (p : Int32 × Int32 × OV) => PX9_shows_L32 post k x p.1 p.2.1 (nI i) p.2.2) (fun i p => (p.1 = -2 ∧ p.2.1 = -2 ∧ TrI m ρ h S T Q K (daysS ρ h S T Q K i z) p.2.2 ∧ ∀ j, j < i → ∀ t, t < S → ¬ wrn h (daysS ρ h S T Q K j z) t) ∨ ∃ j t, j < i ∧ t < S ∧ p.1 = nI t ∧ p.2.1 = nI (d + j) ∧ Kp m p.2.2 ∧ p.2.2.1 50 = 0 ∧ (∀ i, i < j → ∀ t, t < S → ¬ wrn h (daysS ρ h S T Q K i z) t) ∧ (∀ q, q < t → ¬ wrn h (daysS ρ h S T Q K j z) q) ∧ wrn h (daysS ρ h S T Q K j z) t) 200 (-2, -2, m1) (Or.inl ⟨rfl, rfl, r, fun j hj => absurd hj (Nat.not_lt_zero j)⟩) ?_ ?_
  · rintro k ⟨a, b, m2⟩ cs
    show PX9_shows_L32 post (k + 1) x a b (nI 200) m2
    unfold PX9_shows_L32
    refine br_t (Int32.le_refl _) ?_
    rcases cs with ⟨ea, eb, r2, no⟩ | ⟨j, t, hj, ht, ea, eb, k2, e50, o1, o2, o3⟩
    · rw [show a = -2 from ea, show b = -2 from eb]
      exact hn no m2 r2.1 r2.2.2.2.2
    · rw [show a = _ from ea, show b = _ from eb]
      exact hs j hj t ht o1 o2 o3 m2 k2 e50
  · rintro k i ⟨a, b, m2⟩ hi cs next
    show PX9_shows_L32 post (k + 1) x a b (nI i) m2
    unfold PX9_shows_L32
    refine br_f (fr_nle (b := 200) (by omega) (by omega)) ?_
    rcases cs with ⟨ea, eb, r2, no⟩ | ⟨j, t, hj, ht, ea, eb, k2, e50, o1, o2, o3⟩
    · rw [show a = -2 from ea, show b = -2 from eb]
      refine br_nt rfl ?_
      rw [show m2.2.1 1 ((3 : Int32)).toNatClampNeg = nI S from r2.2.1.1.2.2.1]
      rintro _ rfl
      refine mp_showsDay lim hv (Sok_days l1 l3 so i) r2 (fun nf m3 r3 => ?_) (fun t ht b1 b2 m3 k3 e50 => ?_)
      · rw [nI_1]
        refine next (-2, -2, m3) (Or.inl ⟨rfl, rfl, r3, fun j hj => ?_⟩)
        by_cases e : j = i
        · rw [e]; exact nf
        · exact no j (by omega)
      · rw [nI_1]
        exact next (nI t, nI (d + i), m3) (Or.inr ⟨i, t, by omega, ht, rfl, rfl, k3, e50, no, b1, b2⟩)
    · rw [show a = _ from ea, show b = _ from eb]
      exact br_nf (n_m2 (by omega)) (hs j (by omega) t ht o1 o2 o3 m2 k2 e50)
theorem sim_shows {n : Nat} {t c h s w z m : OV} {pp pr : Nat → OV} {im : Nat → Option IMG} {x : Int32} (sim : Sim t c h s pp pr n im m) : PX8_shows t c h s w z pr n x (fun r w' z' pr' => PX9_shows m x (fun r' m' => r = r' ∧ Sim t c h s pp pr' n im m')) := by
  have sim0 := sim
  obtain ⟨⟨S, T, Q, K, d, w0⟩, tap, rl, mi, ims⟩ := sim
  have w0' := w0
  obtain ⟨hok, hv, hr, so, hd, sr, td, nm, fc, dw, ps⟩ := w0'
  have lim := hok.1
  have l1 := lim.1
  have l3 := lim.2.2.1
  unfold PX8_shows
  refine cp_isTold hv ?_
  by_cases A : h.1 0 = 1 ∧ isIx x 2
  · rw [zb_t A]
    have tn : ¬ h.1 0 = 0 := (told_iff hv).mpr A.1
    refine br_nf (by decide) (cp_copy (fun z1 ez => ?_))
    have so1 := Sok_eq l1 ez so
    have ref : ∀ post : Int32 → OV → Prop, (∀ m1, TrI m (rhoS c pr) h S T Q K z1 m1 → ∃ n, PX9_shows_L32 post n x (-2) (-2) 0 m1) → PX9_shows m x post := by
      intro post hp
      unfold PX9_shows
      refine mp_isHill hv hr (br_f tn (mp_inC 2 (by omega) (by decide) ?_))
      rw [zb_t A.2]
      exact br_nf (by decide) (tr_keep w0 rl mi.2 (fun m1 r1 => hp m1 (TrI_eq lim ez r1)))
    have fin : ∀ (pr' : Nat → OV), PrEq pr pr' → ∀ (v y2 y3 : Int32) m2, Kp m m2 → m2.1 50 = 0 → (v = if x = 0 then y2 else y3) → PX9_shows_b120 (fun r' m' => v = r' ∧ Sim t c h s pp pr' n im m') x y2 y3 m2 := by
      intro pr' q v y2 y3 m2 k2 e50 ev
      unfold PX9_shows_b120
      refine tr_back w0 rl mi.2 k2 e50 (fun m3 ag hl _ => br_nc (fun e => ⟨?_, Sim_keep q ag hl sim0⟩) (fun e => ⟨?_, Sim_keep q ag hl sim0⟩))
      · rw [ev, if_neg e]
      · rw [ev, if_pos e]
    refine fr_rel (fun k i (p : OV × OV × (Nat → OV)) => PX8_shows_L26 t c h s n _ k x (nI i) p.1 p.2.1 p.2.2) (fun i p => p.2.1 = daysS (rhoS c pr) h S T Q K i z1 ∧ PrEq pr p.2.2 ∧ ∀ j, j < i → ∀ t, t < S → ¬ wrn h (daysS (rhoS c pr) h S T Q K j z1) t) 200 (w, z1, pr) ⟨rfl, PrEq_refl pr, fun j hj => absurd hj (Nat.not_lt_zero j)⟩ ?_ ?_
    · rintro k ⟨w2, z2, pr2⟩ ⟨e2, q2, no⟩
      show PX8_shows_L26 t c h s n _ (k + 1) x (nI 200) w2 z2 pr2
      unfold PX8_shows_L26
      refine br_t (Int32.le_refl _) (ref _ (fun m1 r1 => mp_showsLoop lim hv so1 r1 (fun _ m2 k2 e50 => fin pr2 q2 (-2) (-2) (-2) m2 k2 e50 ?_) (fun j hj q0 hq0 _ _ y => absurd y (no j hj q0 hq0))))
      split <;> rfl
    · rintro k i ⟨w2, z2, pr2⟩ hi ⟨e2, q2, no⟩ next
      have e2' : z2 = daysS (rhoS c pr) h S T Q K i z1 := e2
      have q2' : PrEq pr pr2 := q2
      subst e2'
      show PX8_shows_L26 t c h s n _ (k + 1) x (nI i) w2 (daysS (rhoS c pr) h S T Q K i z1) pr2
      have soi := Sok_days (ρ := rhoS c pr) (h := h) (T := T) (K := K) l1 l3 so1 i
      unfold PX8_shows_L26
      refine br_f (fr_nle (b := 200) hi (by omega)) ?_
      refine cp_firstWorn l1 hok.2.1 (fun all => br_t rfl ?_) (fun t0 ht0 wt bef => br_f (nI_n1 (by omega)) ?_)
      · refine cp_goOn (N := 1) (by omega) hok fc (Rls_pr q2' rl) (fun w3 pr3 q3 => ?_)
        rw [rho_days q2', days_1, days_s]
        rintro _ rfl
        rw [nI_1]
        refine next (w3, _, pr3) ⟨rfl, PrEq_trans q2' q3, fun j hj => ?_⟩
        by_cases e : j = i
        · rw [e]; exact fun t ht y => y (all t ht)
        · exact no j (by omega)
      · have refq : ∀ (v : Int32), (v = if x = 0 then nI t0 else nI (d + i)) → PX9_shows m x (fun r' m' => v = r' ∧ Sim t c h s pp pr2 n im m') := by
          intro v ev
          refine ref _ (fun m1 r1 => mp_showsLoop lim hv so1 r1 (fun nn => absurd wt (nn i hi t0 ht0)) (fun j hj q1 hq1 o1 o2 o3 m2 k2 e50 => ?_))
          have ej : j = i := by
            rcases Nat.lt_trichotomy j i with y | y | y
            · exact absurd o3 (no j y q1 hq1)
            · exact y
            · exact absurd wt (o1 i y t0 ht0)
          subst ej
          have eq : q1 = t0 := by
            rcases Nat.lt_trichotomy q1 t0 with y | y | y
            · exact absurd (bef q1 y) o3
            · exact y
            · exact absurd wt (o2 t0 y)
          subst eq
          exact fin pr2 q2' v _ _ m2 k2 e50 ev
        rw [soi.1]
        exact br_nc (fun e => refq _ (by rw [if_neg e])) (fun e => refq _ (by rw [if_pos e]))
  · rw [zb_f A]
    refine br_nt rfl ?_
    unfold PX9_shows
    refine mp_isHill hv hr (br_c (fun _ => ⟨rfl, sim0⟩) (fun e => mp_inC 2 (by omega) (by decide) ?_))
    rw [zb_f (fun y => A ⟨(told_iff hv).mp e, y⟩)]
    exact br_nt rfl ⟨rfl, sim0⟩
