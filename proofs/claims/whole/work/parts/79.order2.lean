/-! 79: the calls order, mean, gone, hint -/
theorem cp_isBetter {t c h s : OV} {q x y : Nat} (hq : q < 4) (hx : x < 10) (hy : y < 10) {post : Int32 → Prop} (hp : post (zb (btr h s q x (nI y)))) : PX8_isBetter t c h s (nI q) (nI x) (nI y) post := by
  unfold PX8_isBetter
  rw [nI_31 (show x < 1000 by omega), nI_31 (show y < 1000 by omega)]
  refine ⟨vp_in_q hx (by omega), cp_minutes hq hy ?_⟩
  rintro _ rfl
  refine ⟨vp_in_q hy (by omega), cp_minutes hq hx ?_⟩
  rintro _ rfl
  have e : btr h s q x (nI y) ↔ ¬ h.2.1 7 x * minS h s q y ≤ h.2.1 7 y * minS h s q x := by
    unfold btr
    rw [nI_31 (show y < 1000 by omega)]
  refine br_c (fun g => ?_) (fun g => ?_)
  · rw [zb_f (fun y => e.mp y g)] at hp
    exact hp
  · rw [zb_t (e.mpr g)] at hp
    exact hp
theorem cp_putInOrder {t c h s : OV} {q S : Nat} (hq : q < 4) (hS : S ≤ 10) (e4 : h.1 4 = nI S) {post : Int32 → OV → Prop} (hp : post (nI (ptS h s q S (t.2.1 11)).1) (sa t 11 (ptS h s q S (t.2.1 11)).2)) : PX8_putInOrder t c h s (nI q) post := by
  unfold PX8_putInOrder
  have go := fr_loop (fun n i (p : Nat × (Nat → Int32)) => PX8_putInOrder_L4 c h s post n (nI q) (nI p.1) (nI i) (sa t 11 p.2)) (fun x p => pt1 h s q x p) S (0, t.2.1 11) ?_ ?_
  · rw [show sa t 11 ((0, t.2.1 11) : Nat × (Nat → Int32)).2 = t from sa_self t 11] at go
    exact go
  · intro n
    unfold PX8_putInOrder_L4
    rw [e4]
    exact br_t (Int32.le_refl _) hp
  · intro n i hi hw
    have pk := pt_ok (h := h) (s := s) (q := q) (o := t.2.1 11) i
    rw [show itn (fun x p => pt1 h s q x p) i (0, t.2.1 11) = ptS h s q i (t.2.1 11) from rfl] at hw ⊢
    generalize ptS h s q i (t.2.1 11) = p at pk hw ⊢
    obtain ⟨k, o⟩ := p
    have pk1 : k ≤ i := pk.1
    have pk2 : ∀ j, j < k → ∃ x, x < i ∧ o j = nI x := pk.2
    show PX8_putInOrder_L4 c h s post (n + 1) (nI q) (nI k) (nI i) (sa t 11 o)
    unfold pt1 at hw
    rw [← nI_1 i] at hw
    unfold PX8_putInOrder_L4
    rw [e4, nI_31 (show i < 1000 by omega)]
    refine br_f (fr_nle hi (by omega)) ⟨vp_in_q (by omega) (by omega), br_c (fun g => ?_) (fun g => ?_)⟩
    · rw [if_pos g] at hw
      rintro _ rfl
      exact hw
    · rw [if_neg g] at hw
      have hw' : PX8_putInOrder_L4 c h s post n (nI q) (nI (k + 1)) (nI i + 1) (sa t 11 (insK h s q i k o)) := hw
      have inner : ∀ j o, j ≤ k → (∀ l, l < j → ∃ x, x < i ∧ o l = nI x) → PX8_putInOrder_L4 c h s post n (nI q) (nI (k + 1)) (nI i + 1) (sa t 11 (insK h s q i j o)) → PX8_putInOrder_L36 c h s (PX8_putInOrder_L4 c h s post n) post (j + 1) (nI q) (nI k) (nI i) (nI j) (sa t 11 o) := by
        intro j
        induction j with
        | zero =>
          intro o _ _ hk
          unfold PX8_putInOrder_L36 PX8_putInOrder_b81
          refine br_t (Int32.le_refl _) ⟨vp_in_q (a := 0) (by omega) (by omega), ?_⟩
          rw [sa_at, nI_31 (show 0 < 1000 by omega)]
          rintro _ rfl
          rw [nI_1]
          rintro _ rfl _ rfl
          rw [show sa (sa t 11 o) 11 (upd o 0 (nI i)) = sa t 11 (upd o 0 (nI i)) from sa_sa t 11 o _]
          exact hk
        | succ j ih =>
          intro o hj ho hk
          obtain ⟨y, hy, ey⟩ := ho j (by omega)
          unfold PX8_putInOrder_L36 PX8_putInOrder_b81
          rw [nI_dn1, nI_dn, sa_at, nI_31 (show j < 1000 by omega), nI_31 (show j + 1 < 1000 by omega), ey]
          refine br_f (nI_nle (by omega) (by omega)) ⟨vp_in_q (by omega) (by omega), cp_isBetter hq (by omega) (by omega) ?_⟩
          have st : insK h s q i (j + 1) o = if zb (btr h s q i (o j)) = 1 then insK h s q i j (upd o (j + 1) (o j)) else upd o (j + 1) (nI i) := rfl
          rw [ey] at st
          by_cases b : btr h s q i (nI y)
          · rw [zb_t b] at st ⊢
            rw [if_pos rfl] at st
            refine br_f (by decide) ⟨vp_in_q (by omega) (by omega), ?_⟩
            rintro _ rfl
            refine ⟨vp_in_q (by omega) (by omega), ?_⟩
            rintro _ rfl _ rfl
            rw [show sa (sa t 11 o) 11 (upd o (j + 1) (nI y)) = sa t 11 (upd o (j + 1) (nI y)) from sa_sa t 11 o _]
            refine ih _ (by omega) (fun l hl => ?_) (by rw [← st]; exact hk)
            rw [upd_ne _ _ (by omega)]
            exact ho l (by omega)
          · rw [zb_f b] at st ⊢
            rw [if_neg (by decide)] at st
            refine br_t rfl ⟨vp_in_q (by omega) (by omega), ?_⟩
            rintro _ rfl
            rw [nI_1]
            rintro _ rfl _ rfl
            rw [show sa (sa t 11 o) 11 (upd o (j + 1) (nI i)) = sa t 11 (upd o (j + 1) (nI i)) from sa_sa t 11 o _, ← st]
            exact hk
      exact ⟨k + 1, inner k o (Nat.le_refl k) pk2 hw'⟩
theorem mp_laysOrder {m h s : OV} {q S T Q K : Nat} (lim : Lim S T Q K) (hq : q < Q) (hr : HRel h S T Q K m) (sr : SRel s S T Q m) {post : Int32 → OV → Prop} (hp : post (nI (ptS h s q S (m.2.1 60)).1) (sa m 60 (ptS h s q S (m.2.1 60)).2)) : PX9_laysOrder m (nI q) post := by
  obtain ⟨hS, l2, l3, l4⟩ := lim
  unfold PX9_laysOrder
  have go := fr_loop (fun n i (p : Nat × (Nat → Int32)) => PX9_laysOrder_L4 post n (nI q) (nI p.1) (nI i) (sa m 60 p.2)) (fun x p => pt1 h s q x p) S (0, m.2.1 60) ?_ ?_
  · rw [show sa m 60 ((0, m.2.1 60) : Nat × (Nat → Int32)).2 = m from sa_self m 60] at go
    exact go
  · intro n
    unfold PX9_laysOrder_L4
    rw [show (sa m 60 (itn (fun x p => pt1 h s q x p) S (0, m.2.1 60)).2).2.1 1 ((3 : Int32)).toNatClampNeg = nI S from hr.1.2.2.1]
    exact br_t (Int32.le_refl _) hp
  · intro n i hi hw
    have pk := pt_ok (h := h) (s := s) (q := q) (o := m.2.1 60) i
    rw [show itn (fun x p => pt1 h s q x p) i (0, m.2.1 60) = ptS h s q i (m.2.1 60) from rfl] at hw ⊢
    generalize ptS h s q i (m.2.1 60) = p at pk hw ⊢
    obtain ⟨k, o⟩ := p
    have pk1 : k ≤ i := pk.1
    have pk2 : ∀ j, j < k → ∃ x, x < i ∧ o j = nI x := pk.2
    show PX9_laysOrder_L4 post (n + 1) (nI q) (nI k) (nI i) (sa m 60 o)
    unfold pt1 at hw
    rw [← nI_1 i] at hw
    unfold PX9_laysOrder_L4
    rw [show (sa m 60 o).2.1 1 ((3 : Int32)).toNatClampNeg = nI S from hr.1.2.2.1, nI_31 (show i < 1000 by omega), show (sa m 60 o).2.1 4 i = h.2.1 7 i from (hr.2.1 i hi).2.2]
    refine br_f (fr_nle hi (by omega)) ⟨vp_in_q (by omega) (by omega), br_c (fun g => ?_) (fun g => ?_)⟩
    · rw [if_pos g] at hw
      rintro _ rfl
      exact hw
    · rw [if_neg g] at hw
      have hw' : PX9_laysOrder_L4 post n (nI q) (nI (k + 1)) (nI i + 1) (sa m 60 (insK h s q i k o)) := hw
      have inner : ∀ j o, j ≤ k → (∀ l, l < j → ∃ x, x < i ∧ o l = nI x) → PX9_laysOrder_L4 post n (nI q) (nI (k + 1)) (nI i + 1) (sa m 60 (insK h s q i j o)) → PX9_laysOrder_L26 (PX9_laysOrder_L4 post n) post (j + 1) (nI q) (nI k) (nI i) (nI j) (sa m 60 o) := by
        intro j
        induction j with
        | zero =>
          intro o _ _ hk
          unfold PX9_laysOrder_L26 PX9_laysOrder_b98
          refine br_t (Int32.le_refl _) ⟨vp_in_q (a := 0) (by omega) (by omega), ?_⟩
          rw [sa_at, nI_31 (show 0 < 1000 by omega)]
          rintro _ rfl
          rw [nI_1]
          rintro _ rfl _ rfl
          rw [show sa (sa m 60 o) 60 (upd o 0 (nI i)) = sa m 60 (upd o 0 (nI i)) from sa_sa m 60 o _]
          exact hk
        | succ j ih =>
          intro o hj ho hk
          obtain ⟨y, hy, ey⟩ := ho j (by omega)
          have hy' : y < S := by omega
          unfold PX9_laysOrder_L26 PX9_laysOrder_b98
          rw [nI_dn1, nI_dn, sa_at, nI_31 (show j < 1000 by omega), nI_31 (show j + 1 < 1000 by omega), ey, nI_31 (show y < 1000 by omega), nI_31 (show i < 1000 by omega), show (sa m 60 o).2.1 4 i = h.2.1 7 i from (hr.2.1 i hi).2.2, show (sa m 60 o).2.1 4 y = h.2.1 7 y from (hr.2.1 y hy').2.2]
          refine br_f (nI_nle (by omega) (by omega)) ⟨vp_in_q (by omega) (by omega), vp_in_q (by omega) (by omega), ?_⟩
          refine mp_minutes (h := h) (s := s) (by omega) (by omega) ?_ ?_ ?_ ?_
          · exact (hr.2.1 y hy').2.1
          · exact (hr.2.2.1 q hq).1
          · exact sr.2.1 y hy'
          refine ⟨vp_in_q (by omega) (by omega), vp_in_q (by omega) (by omega), ?_⟩
          refine mp_minutes (h := h) (s := s) (by omega) (by omega) ?_ ?_ ?_ ?_
          · exact (hr.2.1 i hi).2.1
          · exact (hr.2.2.1 q hq).1
          · exact sr.2.1 i hi
          have st : insK h s q i (j + 1) o = if zb (btr h s q i (o j)) = 1 then insK h s q i j (upd o (j + 1) (o j)) else upd o (j + 1) (nI i) := rfl
          have eb : btr h s q i (o j) ↔ ¬ h.2.1 7 i * minS h s q y ≤ h.2.1 7 y * minS h s q i := by
            unfold btr
            rw [ey, nI_31 (show y < 1000 by omega)]
          refine br_c (fun g => ?_) (fun g => ⟨vp_in_q (by omega) (by omega), ?_⟩)
          · rw [zb_f (fun z => eb.mp z g), if_neg (by decide)] at st
            refine ⟨vp_in_q (by omega) (by omega), ?_⟩
            rintro _ rfl
            rw [nI_1]
            rintro _ rfl _ rfl
            rw [show sa (sa m 60 o) 60 (upd o (j + 1) (nI i)) = sa m 60 (upd o (j + 1) (nI i)) from sa_sa m 60 o _, ← st]
            exact hk
          · rw [zb_t (eb.mpr g), if_pos rfl, ey] at st
            rintro _ rfl
            refine ⟨vp_in_q (by omega) (by omega), ?_⟩
            rintro _ rfl _ rfl
            rw [show sa (sa m 60 o) 60 (upd o (j + 1) (nI y)) = sa m 60 (upd o (j + 1) (nI y)) from sa_sa m 60 o _]
            refine ih _ (by omega) (fun l hl => ?_) (by rw [← st]; exact hk)
            rw [upd_ne _ _ (by omega)]
            exact ho l (by omega)
      exact ⟨k + 1, inner k o (Nat.le_refl k) pk2 hw'⟩
/-- the class's own arrays beside the tape are not told of -/
theorem Sim_t {n k : Nat} {t c h s m : OV} {pp pr : Nat → OV} {im : Nat → Option IMG} {f : Nat → Int32} (hk : k ≠ 0) (sim : Sim t c h s pp pr n im m) : Sim (sa t k f) c h s pp pr n im m := by
  obtain ⟨w, ⟨L, a, b, c', d⟩, rl, mi, ims⟩ := sim
  exact ⟨w, ⟨L, a, b, c', fun i hi => by rw [sa_ne t f (Ne.symm hk)]; exact d i hi⟩, rl, mi, ims⟩
theorem Sim_m60 {n : Nat} {t c h s m : OV} {pp pr : Nat → OV} {im : Nat → Option IMG} {f : Nat → Int32} (sim : Sim t c h s pp pr n im m) : Sim t c h s pp pr n im (sa m 60 f) := by
  have fr : Fr [] [60] [] [] m (sa m 60 f) := Fr_sa (by decide) (by decide) Fr_refl
  exact Sim_keep (PrEq_refl pr) (AG_fr fr (by decide) (by decide) rfl) (Hld_fr fr (by decide) (by decide) (by decide)) sim
theorem sim_order {n : Nat} {t c h s m : OV} {pp pr : Nat → OV} {im : Nat → Option IMG} {x y : Int32} (sim : Sim t c h s pp pr n im m) : PX8_order t c h s x y (fun r t' => PX9_order m x y (fun r' m' => r = r' ∧ Sim t' c h s pp pr n im m')) := by
  have sim0 := sim
  obtain ⟨⟨S, T, Q, K, d, w0⟩, tap, rl, mi, ims⟩ := sim
  have w0' := w0
  obtain ⟨hok, hv, hr, so, hd, sr, td, nm, fc, dw, ps⟩ := w0'
  have lim := hok.1
  have l1 := lim.1
  have l3 := lim.2.2.1
  unfold PX8_order
  refine cp_hasSeeker l3 hok.2.2.2.1 ?_
  by_cases ix : isIx x Q
  · rw [zb_t ix]
    refine br_f (by decide) (br_c (fun g => ?_) (fun g => ?_))
    · have ix' := ix
      obtain ⟨q, hq, rfl⟩ := ix'
      refine cp_putInOrder (by omega) l1 hok.2.1 ?_
      have ps := pt_same (h := h) (s := s) (q := q) (o := t.2.1 11) (o' := m.2.1 60) S
      have pk := pt_ok (h := h) (s := s) (q := q) (o := t.2.1 11) S
      have ref : ∀ post : Int32 → OV → Prop, ((nI (ptS h s q S (t.2.1 11)).1 ≤ y → post (-2) (sa m 60 (ptS h s q S (m.2.1 60)).2)) ∧ (¬ nI (ptS h s q S (t.2.1 11)).1 ≤ y → (vp_in y 10 ∧ post ((ptS h s q S (m.2.1 60)).2 y.toNatClampNeg) (sa m 60 (ptS h s q S (m.2.1 60)).2)))) → PX9_order m (nI q) y post := by
        intro post hp
        unfold PX9_order
        refine mp_isSeeker l3 hr.1.2.2.2.2.1 ?_
        rw [zb_t ix]
        refine br_f (by decide) (br_t g (mp_laysOrder lim hq hr sr ?_))
        rw [ps.1]
        exact hp
      refine br_c (fun a => ref _ (br_t a ⟨rfl, Sim_t (by decide) (Sim_m60 sim0)⟩)) (fun a => ?_)
      obtain ⟨j, hj, ey⟩ := nI_of (Int32.not_lt.mpr g)
      have jl : j < (ptS h s q S (t.2.1 11)).1 := by
        rw [ey] at a
        have := pk.1
        exact (nI_ltI (by omega) (by omega)).mp (Int32.not_le.mp a)
      have vy : vp_in y 10 := by rw [ey]; exact vp_in_q (by have := pk.1; omega) (by omega)
      have ej : y.toNatClampNeg = j := by rw [ey]; exact nI_31 (by have := pk.1; omega)
      refine ⟨vy, ref _ (br_f a ⟨vy, ?_, Sim_t (by decide) (Sim_m60 sim0)⟩)⟩
      rw [sa_at, ej]
      exact (ps.2 j jl).symm
    · unfold PX9_order
      refine mp_isSeeker l3 hr.1.2.2.2.2.1 ?_
      rw [zb_t ix]
      exact br_f (by decide) (br_f g ⟨rfl, sim0⟩)
  · rw [zb_f ix]
    refine br_t rfl ?_
    unfold PX9_order
    refine mp_isSeeker l3 hr.1.2.2.2.2.1 ?_
    rw [zb_f ix]
    exact br_t rfl ⟨rfl, sim0⟩
theorem mp_allOdds {m h : OV} {S T Q K : Nat} (lim : Lim S T Q K) (hr : HRel h S T Q K m) {post : Int32 → Prop} (hp : post (smS (h.2.1 7) S)) : PX9_allOdds m post := by
  have l1 := lim.1
  unfold PX9_allOdds
  refine fr_loop (fun n i x => PX9_allOdds_L4 m post n x (nI i)) (fun k x => x + h.2.1 7 k) S 0 ?_ ?_
  · intro n
    unfold PX9_allOdds_L4
    rw [show m.2.1 1 ((3 : Int32)).toNatClampNeg = nI S from hr.1.2.2.1]
    exact br_t (Int32.le_refl _) hp
  · intro n i hi hw
    unfold PX9_allOdds_L4
    rw [show m.2.1 1 ((3 : Int32)).toNatClampNeg = nI S from hr.1.2.2.1, nI_31 (show i < 1000 by omega), (hr.2.1 i hi).2.2]
    refine br_f (fr_nle hi (by omega)) ⟨vp_in_q (by omega) (by omega), ?_⟩
    rintro _ rfl _ rfl
    rw [nI_1]
    exact hw
theorem sm_nat {f : Nat → Int32} : ∀ n, (∀ t, t < n → isIx (f t) 10) → ∃ B, B ≤ 9 * n ∧ smS f n = nI B
  | 0, _ => ⟨0, by omega, rfl⟩
  | n + 1, h => by
    obtain ⟨B, hB, e⟩ := sm_nat n (fun t ht => h t (by omega))
    obtain ⟨k, hk, ek⟩ := h n (by omega)
    refine ⟨B + k, by omega, ?_⟩
    show smS f n + f n = _
    rw [e, ek, nI_add]
theorem min_all : ∀ a, a < 21 → ∀ b, b < 10 → ∀ c, c < 25 → ((if (1 : Int32) < nI a - nI b - nI c then nI a - nI b - nI c else 1) = nI ((if (1 : Int32) < nI a - nI b - nI c then nI a - nI b - nI c else 1).toNatClampNeg) ∧ (if (1 : Int32) < nI a - nI b - nI c then nI a - nI b - nI c else 1).toNatClampNeg ≤ 20) := by decide +kernel
theorem div4 : ∀ a, a < 100 → nI a / 4 = nI (a / 4) := by decide +kernel
theorem min_nat {h s : OV} {S Q d e q t : Nat} (hv : Hv h S Q) (so : Sok s S Q d e) (hq : q < Q) (ht : t < S) : ∃ k, k ≤ 20 ∧ minS h s q t = nI k := by
  obtain ⟨a, ha, ea⟩ := (hv.1 t ht).2.1
  obtain ⟨b, hb, eb⟩ := (hv.2.1 q hq).1
  obtain ⟨c, hc, ec⟩ := so.2.2.2.1 t ht
  have := min_all a ha b hb (c / 4) (by omega)
  unfold minS
  rw [ea, eb, ec, div4 c hc]
  exact ⟨_, this.2, this.1⟩
def mn1 (h s : OV) (q : Nat) (o : Nat → Int32) (j : Nat) (p : Int32 × Int32) : Int32 × Int32 := (p.1 + minS h s q (o j).toNatClampNeg, p.2 + h.2.1 7 (o j).toNatClampNeg * (p.1 + minS h s q (o j).toNatClampNeg))
def mnS (h s : OV) (q : Nat) (o : Nat → Int32) (n : Nat) : Int32 × Int32 := itn (mn1 h s q o) n (0, 0)
theorem mn_nat {h s : OV} {S Q d e q : Nat} {o : Nat → Int32} (hS : S ≤ 10) (hv : Hv h S Q) (so : Sok s S Q d e) (hq : q < Q) : ∀ n, (∀ j, j < n → ∃ x, x < S ∧ o j = nI x) → ∃ a b, a ≤ 20 * n ∧ b ≤ 180 * n * n ∧ mnS h s q o n = (nI a, nI b)
  | 0, _ => ⟨0, 0, by omega, by omega, rfl⟩
  | n + 1, ho => by
    obtain ⟨a, b, ha, hb, e⟩ := mn_nat hS hv so hq n (fun j hj => ho j (by omega))
    obtain ⟨x, hx, ex⟩ := ho n (by omega)
    obtain ⟨k, hk, ek⟩ := min_nat hv so hq hx
    obtain ⟨w, hw, ew⟩ := (hv.1 x hx).2.2
    refine ⟨a + k, b + w * (a + k), by omega, ?_, ?_⟩
    · have h1 : w * (a + k) ≤ 9 * (20 * n + 20) := Nat.mul_le_mul (by omega) (by omega)
      have h2 : 180 * (n + 1) * (n + 1) = 180 * n * n + 360 * n + 180 := by
        rw [Nat.mul_add 180 n 1, Nat.mul_add (180 * n + 180 * 1) n 1, Nat.add_mul (180 * n) (180 * 1) n]
        omega
      omega
    · show mn1 h s q o n (mnS h s q o n) = _
      rw [e]
      unfold mn1
      rw [ex, nI_31 (show x < 1000 by omega), ek, ew, nI_add, nI_mul, nI_add]
theorem sim_mean {n : Nat} {t c h s m : OV} {pp pr : Nat → OV} {im : Nat → Option IMG} {x y : Int32} (sim : Sim t c h s pp pr n im m) : PX8_mean t c h s x y (fun r t' => PX9_mean m x y (fun r' m' => r = r' ∧ Sim t' c h s pp pr n im m')) := by
  have sim0 := sim
  obtain ⟨⟨S, T, Q, K, d, w0⟩, tap, rl, mi, ims⟩ := sim
  have w0' := w0
  obtain ⟨hok, hv, hr, so, hd, sr, td, nm, fc, dw, ps⟩ := w0'
  have lim := hok.1
  have l1 := lim.1
  have l3 := lim.2.2.1
  have noR : (¬ isIx x Q ∨ ¬ isIx y 2) → PX9_mean m x y (fun r' m' => (-1 : Int32) = r' ∧ Sim t c h s pp pr n im m') := by
    intro g
    unfold PX9_mean
    refine mp_isSeeker l3 hr.1.2.2.2.2.1 ?_
    by_cases ix : isIx x Q
    · rw [zb_t ix]
      refine br_f (by decide) (mp_inC 2 (by omega) (by decide) ?_)
      rw [zb_f (g.resolve_left (fun k => k ix))]
      exact br_nt rfl ⟨rfl, sim0⟩
    · rw [zb_f ix]
      exact br_t rfl ⟨rfl, sim0⟩
  unfold PX8_mean
  refine cp_hasSeeker l3 hok.2.2.2.1 ?_
  by_cases ix : isIx x Q
  · rw [zb_t ix]
    refine br_f (by decide) ?_
    have part : ∀ post : Int32 → Prop, (isIx y 2 → post 1) → (¬ isIx y 2 → post 0) → PX8_isPart y post := by
      intro post h1 h0
      unfold PX8_isPart
      refine br_c (fun e => h1 ⟨0, by omega, e⟩) (fun e => br_nc (fun e1 => h0 (fun q => ?_)) (fun e1 => h1 ⟨1, by omega, e1⟩))
      obtain ⟨k, hk, ek⟩ := q
      have : k = 0 ∨ k = 1 := by omega
      rcases this with rfl | rfl
      · exact e ek
      · exact e1 ek
    refine part _ (fun iy => ?_) (fun iy => br_nt rfl (noR (Or.inr iy)))
    have yp : y = 0 ∨ y = 1 := by
      obtain ⟨k, hk, ek⟩ := iy
      have : k = 0 ∨ k = 1 := by omega
      rcases this with rfl | rfl
      · exact Or.inl ek
      · exact Or.inr ek
    have ix' := ix
    obtain ⟨q, hq, rfl⟩ := ix'
    refine br_nf (by decide) (cp_putInOrder (by omega) l1 hok.2.1 ?_)
    have ps := pt_same (h := h) (s := s) (q := q) (o := t.2.1 11) (o' := m.2.1 60) S
    have pk := pt_ok (h := h) (s := s) (q := q) (o := t.2.1 11) S
    have psum := pt_sum (h := h) (s := s) (q := q) (o := t.2.1 11) l1 (fun t ht => (hv.1 t ht).2.2) S (Nat.le_refl S)
    generalize ptS h s q S (t.2.1 11) = p at ps pk psum ⊢
    obtain ⟨k, o⟩ := p
    have pk1 : k ≤ S := pk.1
    have pk2 : ∀ j, j < k → ∃ x, x < S ∧ o j = nI x := pk.2
    have ps1 : (ptS h s q S (m.2.1 60)).1 = k := ps.1
    have ps2 : ∀ j, j < k → (ptS h s q S (m.2.1 60)).2 j = o j := ps.2
    obtain ⟨A, B', hA, hB', eAB⟩ := mn_nat l1 hv so hq k pk2
    obtain ⟨B, hB, eB⟩ := sm_nat (f := h.2.1 7) S (fun t ht => (hv.1 t ht).2.2)
    have kk : 180 * k * k ≤ 18000 := by
      have h1 : 180 * k ≤ 1800 := by omega
      have := Nat.mul_le_mul h1 (show k ≤ 10 by omega)
      omega
    show ∃ n10, PX8_mean_L35 c h s _ n10 (nI q) y (nI k) 0 0 0 0 (sa t 11 o)
    refine fr_loop (fun n i (p : Int32 × Int32 × Int32) => PX8_mean_L35 c h s _ n (nI q) y (nI k) p.1 p.2.1 p.2.2 (nI i) (sa t 11 o)) (fun j p => ((mn1 h s q o j (p.1, p.2.1)).1, (mn1 h s q o j (p.1, p.2.1)).2, p.2.2 + h.2.1 7 (o j).toNatClampNeg)) k (0, 0, 0) ?_ ?_
    · intro n1
      have key : ∀ i, itn (fun j (p : Int32 × Int32 × Int32) => ((mn1 h s q o j (p.1, p.2.1)).1, (mn1 h s q o j (p.1, p.2.1)).2, p.2.2 + h.2.1 7 (o j).toNatClampNeg)) i (0, 0, 0) = ((mnS h s q o i).1, (mnS h s q o i).2, osS (fun x => h.2.1 7 x.toNatClampNeg) o i) := by
        intro i
        induction i with
        | zero => rfl
        | succ i ih =>
          show (fun j (p : Int32 × Int32 × Int32) => ((mn1 h s q o j (p.1, p.2.1)).1, (mn1 h s q o j (p.1, p.2.1)).2, p.2.2 + h.2.1 7 (o j).toNatClampNeg)) i (itn _ i (0, 0, 0)) = _
          rw [ih]
          rfl
      rw [key k]
      show PX8_mean_L35 c h s _ (n1 + 1) (nI q) y (nI k) (mnS h s q o k).1 (mnS h s q o k).2 (osS (fun x => h.2.1 7 x.toNatClampNeg) o k) (nI k) (sa t 11 o)
      have psum' : osS (fun x => h.2.1 7 x.toNatClampNeg) o k = smS (h.2.1 7) S := psum
      rw [eAB, psum', eB]
      unfold PX8_mean_L35
      refine br_t (Int32.le_refl _) (cp_lowest (by omega) (by omega) ?_)
      unfold PX9_mean
      refine mp_isSeeker l3 hr.1.2.2.2.2.1 ?_
      rw [zb_t ix]
      refine br_f (by decide) (mp_inC 2 (by omega) (by decide) ?_)
      rw [zb_t iy]
      refine br_nf (by decide) (mp_laysOrder lim hq hr sr ?_)
      rw [ps1]
      refine fr_loop (fun n i (p : Int32 × Int32) => PX9_mean_L35 _ n (nI q) y (nI k) p.1 p.2 (nI i) (sa m 60 (ptS h s q S (m.2.1 60)).2)) (mn1 h s q o) k (0, 0) ?_ ?_
      · intro n2
        rw [show itn (mn1 h s q o) k (0, 0) = (nI A, nI B') from eAB]
        unfold PX9_mean_L35
        refine br_t (Int32.le_refl _) (mp_allOdds (m := sa m 60 _) lim (HRel_fr (Fr_sa (I := []) (A := [60]) (C := []) (L := []) (by decide) (by decide) Fr_refl) (by decide) (by decide) hr) ?_)
        rw [eB]
        exact mp_fraction (by omega) (by omega) yp ⟨rfl, Sim_t (by decide) (Sim_m60 sim0)⟩
      · intro n2 i hi hw
        obtain ⟨x, hx, ex⟩ := pk2 i hi
        generalize itn (mn1 h s q o) i (0, 0) = p at hw ⊢
        unfold mn1 at hw
        rw [ex, nI_31 (show x < 1000 by omega), ← nI_1] at hw
        unfold PX9_mean_L35
        rw [nI_31 (show i < 1000 by omega), sa_at, ps2 i hi, ex, nI_31 (show x < 1000 by omega)]
        refine br_f (fr_nle hi (by omega)) ⟨vp_in_q (by omega) (by omega), ?_⟩
        refine mp_minutes (h := h) (s := s) (by omega) (by omega) ?_ ?_ ?_ ?_
        · exact (hr.2.1 x hx).2.1
        · exact (hr.2.2.1 q hq).1
        · exact sr.2.1 x hx
        rintro _ rfl
        refine ⟨vp_in_q (by omega) (by omega), vp_in_q (by omega) (by omega), ?_⟩
        rw [show (sa m 60 (ptS h s q S (m.2.1 60)).2).2.1 4 x = h.2.1 7 x from (hr.2.1 x hx).2.2]
        rintro _ rfl _ rfl
        exact hw
    · intro n1 i hi hw
      obtain ⟨x, hx, ex⟩ := pk2 i hi
      generalize itn (fun j (p : Int32 × Int32 × Int32) => ((mn1 h s q o j (p.1, p.2.1)).1, (mn1 h s q o j (p.1, p.2.1)).2, p.2.2 + h.2.1 7 (o j).toNatClampNeg)) i (0, 0, 0) = p at hw ⊢
      unfold mn1 at hw
      rw [ex, nI_31 (show x < 1000 by omega), ← nI_1] at hw
      unfold PX8_mean_L35
      rw [nI_31 (show i < 1000 by omega), sa_at, ex]
      refine br_f (fr_nle hi (by omega)) ⟨vp_in_q (by omega) (by omega), ?_⟩
      rintro _ rfl
      refine cp_minutes (by omega) (by omega) ?_
      rw [nI_31 (show x < 1000 by omega)]
      rintro _ rfl
      refine ⟨vp_in_q (by omega) (by omega), ?_⟩
      rintro _ rfl
      refine ⟨vp_in_q (by omega) (by omega), ?_⟩
      rintro _ rfl _ rfl
      exact hw
  · rw [zb_f ix]
    exact br_t rfl (noR (Or.inl ix))
