/-! 81: on which days they wrote; ruled, forged -/
def roW (pr : Nat → OV) (r : Nat) : Option OV := match r with
  | 0 => none
  | k + 1 => some (pr k)
/-- row r, seeker q -/
noncomputable def WR (pr : Nat → OV) (ζ : Nat → OV) (h : OV) (S T Q K r q : Nat) : Int32 := (daysS (roW pr r) h S T Q K 61 (ζ r)).2.1 6 q
def rv (r : Nat) : Int32 := match r with
  | 0 => -1
  | k + 1 => nI k
theorem rv_s (r : Nat) : rv r + 1 = rv (r + 1) := by
  cases r with
  | zero => decide
  | succ k => exact nI_1 k
theorem rv_c (r : Nat) : nI r - 1 = rv r := by
  cases r with
  | zero => decide
  | succ k => exact nI_dn1
theorem rv_ge {n r : Nat} (hn : n ≤ 6) (hr : r ≤ n) : ¬ nI n ≤ rv r := by
  cases r with
  | zero => exact fun y => absurd (Int32.le_trans (nI_pos' (n := n) (by omega)) y) (by decide)
  | succ k => exact fr_nle (by omega) (by omega)
/-- what is written stands; the rest of the object as before -/
def TWr (t t' : OV) : Prop := t'.1 = t.1 ∧ ∀ k, k < 100 → t'.2.1 k = t.2.1 k
theorem Sim_tw {n : Nat} {t t' c h s m : OV} {pp pr : Nat → OV} {im : Nat → Option IMG} (w : TWr t t') (sim : Sim t c h s pp pr n im m) : Sim t' c h s pp pr n im m := by
  obtain ⟨x, ⟨L, a, b, c', d⟩, ⟨r1, r2, r3, r4⟩, mi, ims⟩ := sim
  exact ⟨x, ⟨L, a, by rw [w.1]; exact b, c', fun i hi => by rw [w.2 0 (by omega)]; exact d i hi⟩, ⟨by rw [w.1]; exact r1, r2, r3, r4⟩, mi, ims⟩
theorem cp_fillWritten {n : Nat} {t c h w z m : OV} {pr : Nat → OV} {S T Q K : Nat} (hok : Hok h S T Q K) (rl : Rls n t pr m) {post : OV → OV → OV → (Nat → OV) → Prop} (hp : ∀ t' w' z' pr' ζ, (∀ r, r ≤ n → SEq (begS h) (ζ r)) → TWr t t' → (∀ r, r ≤ n → ∀ q, q < 4 → t'.2.1 (100 + r) q = WR pr ζ h S T Q K r q) → PrEq pr pr' → post t' w' z' pr') : PX8_fillWritten t c h w z pr n post := by
  have hn := rl.2.1
  unfold PX8_fillWritten
  refine fr_rel (fun k r (p : OV × OV × OV × (Nat → OV)) => PX8_fillWritten_L2 c h n post k (nI r) p.1 p.2.1 p.2.2.1 p.2.2.2) (fun r p => TWr t p.1 ∧ PrEq pr p.2.2.2 ∧ ∃ ζ : Nat → OV, (∀ j, j < r → SEq (begS h) (ζ j)) ∧ ∀ j, j < r → ∀ q, q < 4 → p.1.2.1 (100 + j) q = WR pr ζ h S T Q K j q) (n + 1) (t, w, z, pr) ⟨⟨rfl, fun _ _ => rfl⟩, PrEq_refl pr, fun _ => w, fun j hj => absurd hj (Nat.not_lt_zero j), fun j hj => absurd hj (Nat.not_lt_zero j)⟩ ?_ ?_
  · rintro k ⟨t1, w1, z1, pr1⟩ ⟨tw, q1, ζ, hζ, hw⟩
    show PX8_fillWritten_L2 c h n post (k + 1) (nI (n + 1)) t1 w1 z1 pr1
    have tw' : TWr t t1 := tw
    unfold PX8_fillWritten_L2
    rw [tw'.1, rl.1]
    exact br_t (nI_lt (by omega) (by omega)) (hp t1 w1 z1 pr1 ζ (fun r hr => hζ r (by omega)) tw (fun r hr => hw r (by omega)) q1)
  · rintro k r ⟨t1, w1, z1, pr1⟩ hr ⟨tw, q1, ζ, hζ, hw⟩ next
    show PX8_fillWritten_L2 c h n post (k + 1) (nI r) t1 w1 z1 pr1
    have tw' : TWr t t1 := tw
    have q1' : PrEq pr pr1 := q1
    have hw' : ∀ j, j < r → ∀ q, q < 4 → t1.2.1 (100 + j) q = WR pr ζ h S T Q K j q := hw
    unfold PX8_fillWritten_L2
    rw [show t1.1 5 = nI n from by rw [tw'.1]; exact rl.1]
    refine br_f (nI_nlt (by omega) (by omega)) ?_
    rw [rv_c]
    have rl1 : Rls n t1 pr1 m := ⟨by rw [tw'.1]; exact rl.1, rl.2.1, rl.2.2.1, (Rls_pr q1' rl).2.2.2⟩
    have body : ∀ o : Option Nat, rhoO pr o = roW pr r → (∀ i, o = some i → i < n) → PX6_begin z1 h (fun v_z4 => (∃ n6 : Nat, PX8_fillWritten_L34 c h n (PX8_fillWritten_L2 c h n post k) post n6 (nI r) o ((0 : Int32)) t1 w1 v_z4 pr1)) := by
      intro o eo ho
      refine cp_begin (fun z2 ez => ?_)
      refine fr_rel (fun k2 i (p : OV × OV × (Nat → OV)) => PX8_fillWritten_L34 c h n (PX8_fillWritten_L2 c h n post k) post k2 (nI r) o (nI i) t1 p.1 p.2.1 p.2.2) (fun i p => p.2.1 = daysS (rhoO pr o) h S T Q K i z2 ∧ PrEq pr p.2.2) 61 (w1, z2, pr1) ⟨rfl, q1'⟩ ?_ ?_
      · rintro k2 ⟨w3, z3, pr3⟩ ⟨e3, q3⟩
        have e3' : z3 = daysS (rhoO pr o) h S T Q K 61 z2 := e3
        show PX8_fillWritten_L34 c h n (PX8_fillWritten_L2 c h n post k) post (k2 + 1) (nI r) o (nI 61) t1 w3 z3 pr3
        unfold PX8_fillWritten_L34
        rw [nI_31 (show r < 1000 by omega)]
        refine br_t (nI_lt (a := 60) (b := 61) (by omega) (by omega)) ⟨vp_in_q (by omega) (by omega), by omega, ?_⟩
        rintro _ rfl _ rfl
        rw [nI_1]
        refine next (_, w3, z3, pr3) ⟨⟨tw'.1, fun j hj => (sa_ne _ _ (by omega)).trans (tw'.2 j hj)⟩, q3, va_up ζ r z2, fun j hj => ?_, fun j hj q hq => ?_⟩
        · unfold va_up
          by_cases e : j = r
          · rw [if_pos e]; exact ez
          · rw [if_neg e]; exact hζ j (by omega)
        · show (sa t1 (100 + r) (va_cpy (z3.2.1 6) (t1.2.1 (100 + r)) 0 0 4)).2.1 (100 + j) q = _
          by_cases e : j = r
          · rw [e, sa_at, cpy_at _ _ hq]
            unfold WR
            rw [show va_up ζ r z2 r = z2 from if_pos rfl, ← eo, e3']
          · rw [sa_ne _ _ (by omega), hw' j (by omega) q hq]
            unfold WR
            rw [show va_up ζ r z2 j = ζ j from if_neg e]
      · rintro k2 i ⟨w3, z3, pr3⟩ hi ⟨e3, q3⟩ next2
        have e3' : z3 = daysS (rhoO pr o) h S T Q K i z2 := e3
        have q3' : PrEq pr pr3 := q3
        have eF : (¬ (0 : Int32) = 0) = False := eq_false (by decide)
        show PX8_fillWritten_L34 c h n (PX8_fillWritten_L2 c h n post k) post (k2 + 1) (nI r) o (nI i) t1 w3 z3 pr3
        unfold PX8_fillWritten_L34
        refine br_f (nI_nlt (a := 60) (by omega) (by omega)) ⟨fun en => ?_, fun j ej => ?_⟩
        · subst en
          refine cp_pass_N hok (fun w4 => ?_)
          rw [eF, nI_1]
          rintro _ rfl
          refine next2 (w4, _, pr3) ⟨?_, q3'⟩
          show passS none h S T Q K False z3 = daysS (rhoO pr none) h S T Q K (i + 1) z2
          rw [e3']
          rfl
        · subst ej
          obtain ⟨g, eg⟩ := q3' j
          have ok : RuleOk (pr3 j) := by rw [eg]; exact (rl.2.2.2 j (ho j rfl)).1
          refine cp_pass_R hok ok (fun w4 f4 => ?_)
          rw [eF, nI_1, eg, pass_sl, sl_sl]
          rintro _ rfl
          refine next2 (w4, _, _) ⟨?_, fun y => ?_⟩
          · show passS (some (pr j)) h S T Q K False z3 = daysS (rhoO pr (some j)) h S T Q K (i + 1) z2
            rw [e3']
            rfl
          · show ∃ f, va_up pr3 j (sl (pr j) 5 f4) y = sl (pr y) 5 f
            unfold va_up
            by_cases q : y = j
            · exact ⟨f4, by rw [if_pos q, q]⟩
            · obtain ⟨g', e'⟩ := q3' y
              exact ⟨g', by rw [if_neg q]; exact e'⟩
    cases r with
    | zero => exact cp_ruleNo (body none rfl (fun i e => by cases e))
    | succ i => exact cp_ruleOf rl1 (by omega) (body (some i) rfl (fun j e => by cases e; omega))
/-- a name holds by a row -/
def hol (wr : Nat → Nat → Int32) (c : OV) (r k : Nat) : Prop := wr r (c.2.1 9 k).toNatClampNeg = c.2.1 8 k
def asN (wr : Nat → Nat → Int32) (c : OV) (nn r : Nat) : Prop := ∀ k, k < nn → hol wr c r k
theorem cp_holds {t c : OV} {wr : Nat → Nat → Int32} {n nn Q r k : Nat} (hn : n ≤ 6) (hr : r ≤ n) (hk : k < nn) (n10 : nn ≤ 10) (hQ : Q ≤ 4) (ix : isIx (c.2.1 9 k) Q) (hw : ∀ r, r ≤ n → ∀ q, q < 4 → t.2.1 (100 + r) q = wr r q) {post : Int32 → Prop} (hp : post (zb (hol wr c r k))) : PX8_holds t c (nI k) (nI r) post := by
  unfold PX8_holds
  obtain ⟨q, hq, eq⟩ := ix
  rw [nI_31 (show r < 1000 by omega), nI_31 (show k < 1000 by omega), eq, nI_31 (show q < 1000 by omega), hw r hr q (by omega)]
  have e : hol wr c r k ↔ wr r q = c.2.1 8 k := by
    unfold hol
    rw [eq, nI_31 (show q < 1000 by omega)]
  refine ⟨vp_in_q (by omega) (by omega), by omega, vp_in_q (by omega) (by omega), vp_in_q (by omega) (by omega), vp_in_q (by omega) (by omega), br_nc (fun g => ?_) (fun g => ?_)⟩
  · rw [zb_f (fun y => g (e.mp y))] at hp
    exact hp
  · rw [zb_t (e.mpr g)] at hp
    exact hp
theorem cp_isAsNamed {t c : OV} {wr : Nat → Nat → Int32} {n nn Q r : Nat} (hn : n ≤ 6) (hr : r ≤ n) (n10 : nn ≤ 10) (n7 : c.1 7 = nI nn) (hQ : Q ≤ 4) (ix : ∀ k, k < nn → isIx (c.2.1 9 k) Q) (hw : ∀ r, r ≤ n → ∀ q, q < 4 → t.2.1 (100 + r) q = wr r q) {post : Int32 → Prop} (hp : post (zb (asN wr c nn r))) : PX8_isAsNamed t c (nI r) post := by
  unfold PX8_isAsNamed
  refine fr_find (fun k i => PX8_isAsNamed_L2 t c post k (nI r) (nI i)) nn (fun k => ¬ hol wr c r k) ?_ ?_ ?_
  · intro hno k
    unfold PX8_isAsNamed_L2
    rw [n7]
    rw [zb_t (show asN wr c nn r from fun k hk => Classical.not_not.mp (hno k hk))] at hp
    exact br_t (Int32.le_refl _) hp
  · intro i hi _ hq k
    unfold PX8_isAsNamed_L2
    rw [n7]
    refine br_f (fr_nle hi (by omega)) (cp_holds hn hr hi n10 hQ (ix i hi) hw ?_)
    rw [zb_f (fun y : asN wr c nn r => hq (y i hi))] at hp
    rw [zb_f hq]
    exact br_nt rfl hp
  · intro k i hi hq hw2
    unfold PX8_isAsNamed_L2
    rw [n7]
    refine br_f (fr_nle hi (by omega)) (cp_holds hn hr hi n10 hQ (ix i hi) hw ?_)
    rw [zb_t (Classical.not_not.mp hq)]
    refine br_nf (by decide) ?_
    rintro _ rfl
    rw [nI_1]
    exact hw2
theorem RuR_row {n r : Nat} {t m m2 : OV} {pr : Nat → OV} {I A C L : List Nat} (rl : Rls n t pr m) (f : Fr I A C L m m2) (hA : ∀ k ∈ [41, 42, 43, 44, 45, 46], k ∉ A) (hr : r ≤ n) (e11 : m2.2.1 1 11 = rv r) : RuR (roW pr r) m2 := by
  cases r with
  | zero => exact e11
  | succ k =>
    have := rl.2.1
    exact ⟨(rl.2.2.2 k (by omega)).1, k, by omega, e11, RuleRel_fr f hA (rl.2.2.2 k (by omega)).2⟩
theorem mp_laysWriting {n r : Nat} {t c h s m m2 : OV} {pp pr ζ : Nat → OV} {S T Q K d : Nat} (w : Scn n c h s pp m S T Q K d) (rl : Rls n t pr m) (m50 : m.1 50 = 0) (tt : h.1 0 = 1) (hr : r ≤ n) (ez : SEq (begS h) (ζ r)) (r2 : TrI m (rhoS c pr) h S T Q K s m2) (ag2 : AG m m2) {post : OV → Prop} (hp : ∀ m3, TrI m (rhoS c pr) h S T Q K s m3 → AG m m3 → (∀ q, q < Q → m3.2.1 61 q = WR pr ζ h S T Q K r q) → m3.2.1 62 = m2.2.1 62 → post m3) : PX9_laysWriting m2 (rv r) post := by
  obtain ⟨hok, hv, hr0, so, hd, sr, td, nm, fc, dw, ps⟩ := w
  have w0 : Scn n c h s pp m S T Q K d := ⟨hok, hv, hr0, so, hd, sr, td, nm, fc, dw, ps⟩
  have lim := hok.1
  unfold PX9_laysWriting
  rintro _ rfl
  have f1 : Fr [] [] [11] [] m2 (sa m2 1 (upd (m2.2.1 1) 11 (rv r))) := Fr_sc (by decide) Fr_refl
  have k1 := Kp_fr r2.1 f1 (by decide) (by decide) (by decide) (by decide)
  have hr1 := HRel_fr f1 (by decide) (by decide) r2.2.1
  have td0 := Told_ag lim ag2 td
  have td1 : Told h T Q (sa m2 1 (upd (m2.2.1 1) 11 (rv r))) := td0
  refine mp_begins lim hr1 td1 tt (fun m4 f4 sr4 => ?_)
  have k4 := Kp_fr k1 f4 (by decide) (by decide) (by decide) (by decide)
  have hr4 := HRel_fr f4 (by decide) (by decide) hr1
  have e11 : m4.2.1 1 11 = rv r := (f4.2.2.1 11 (by decide)).trans (by show upd (m2.2.1 1) 11 (rv r) 11 = rv r; exact upd_eq _ _ _)
  have ru4 : RuR (roW pr r) m4 := RuR_row rl k4.1 (by decide) hr e11
  have e50 : m4.1 50 = 0 := (f4.1 50 (by decide)).trans r2.2.2.2.2
  have so4 : Sok (ζ r) S Q 0 0 := Sok_eq lim.1 ez (Sok_beg hv)
  refine mp_goFor (N := 61) lim hv so4 hr4 (SRel_eq lim.1 lim.2.1 lim.2.2.1 ez sr4) ru4 e50 (by omega) (fun m5 f5 sr5 => ?_)
  have k5 := Kp_fr k4 f5 (by decide) (by decide) (by decide) (by decide)
  refine mp_copies (by omega) (by omega) (by decide) (by decide) (by decide) (fun m6 f6 c6 => ?_)
  have k6 := Kp_fr k5 f6 (by decide) (by decide) (by decide) (by decide)
  have l3 := lim.2.2.1
  have e506 : m6.1 50 = 0 := (f6.1 50 (by decide)).trans ((f5.1 50 (by decide)).trans e50)
  have back : PX9_laysBack m6 (fun v_m8 => post v_m8) := by
    refine mp_laysBack (fun m7 f7 l7 => ?_)
    have back2 : TrI m (rhoS c pr) h S T Q K s m7 ∧ AG m m7 := by
      have f' : Fr [65, 66] [5, 6, 9, 11, 12, 13] BC [] m6 m7 := ⟨f7.1, fun j hj n => f7.2.1 j (fun y => by
        rcases List.mem_cons.mp y with z | z
        · exact n z
        · exact hj z) n, f7.2.2.1, f7.2.2.2⟩
      have k7 := Kp_fr k6 f' (by decide) (by decide) (by decide) (by decide)
      have ag7 : AG m m7 := lay_ag k6 f7 l7
      exact ⟨⟨k7, HRel_ag lim ag7 hr0, SRel_ag lim ag7 sr, RuR_kp k7 ag7 (RuR_of fc rl), (f7.1 50 (by decide)).trans e506⟩, ag7⟩
    refine hp m7 back2.1 back2.2 (fun q hq => ?_) ?_
    · rw [f7.2.1 61 (by decide) (by decide), c6 q (by omega), (sr5.2.2.2 q hq).2.1]
      rfl
    · rw [f7.2.1 62 (by decide) (by decide), f6.2.1 62 (by decide) (by decide), f5.2.1 62 (by decide) (by decide), f4.2.1 62 (by decide) (by decide)]
      rfl
  exact back
theorem mp_areNamesSo {m3 m c : OV} {wr : Nat → Nat → Int32} {nn Q r : Nat} (ag : AG m m3) (n10 : nn ≤ 10) (n9 : m.2.1 1 9 = nI nn) (hQ : Q ≤ 4) (nk : ∀ k, k < nn → m.2.1 15 k = c.2.1 8 k ∧ m.2.1 16 k = c.2.1 9 k ∧ isIx (c.2.1 8 k) 61 ∧ isIx (c.2.1 9 k) Q) (hw : ∀ q, q < Q → m3.2.1 61 q = wr r q) {post : Int32 → Prop} (hp : post (zb (asN wr c nn r))) : PX9_areNamesSo m3 post := by
  unfold PX9_areNamesSo
  have e9 : m3.2.1 1 ((9 : Int32)).toNatClampNeg = nI nn := (ag.1 (1, 12) (by decide) 9 (by decide)).trans n9
  have st : ∀ i, i < nn → ∀ X Y : Prop, (¬ hol wr c r i → X) → (hol wr c r i → Y) → (vp_in (m3.2.1 16 i) 4 ∧ (vp_in (nI i) 10 ∧ (((m3.2.1 61 (m3.2.1 16 i).toNatClampNeg) = (m3.2.1 15 i) → Y) ∧ (¬ (m3.2.1 61 (m3.2.1 16 i).toNatClampNeg) = (m3.2.1 15 i) → X)))) := by
    intro i hi X Y hx hy
    obtain ⟨a, b, _, q, hq, eq⟩ := nk i hi
    have e15 : m3.2.1 15 i = c.2.1 8 i := (ag.1 (15, 10) (by decide) i (show i < 10 by omega)).trans a
    have e16 : m3.2.1 16 i = nI q := (ag.1 (16, 10) (by decide) i (show i < 10 by omega)).trans (b.trans eq)
    have e : hol wr c r i ↔ wr r q = c.2.1 8 i := by
      unfold hol
      rw [eq, nI_31 (show q < 1000 by omega)]
    rw [e15, e16, nI_31 (show q < 1000 by omega), hw q hq]
    exact ⟨vp_in_q (by omega) (by omega), vp_in_q (by omega) (by omega), fun g => hy (e.mpr g), fun g => hx (fun y => g (e.mp y))⟩
  refine fr_find (fun k i => PX9_areNamesSo_L2 m3 post k (nI i)) nn (fun k => ¬ hol wr c r k) ?_ ?_ ?_
  · intro hno k
    unfold PX9_areNamesSo_L2
    rw [e9]
    rw [zb_t (show asN wr c nn r from fun k hk => Classical.not_not.mp (hno k hk))] at hp
    exact br_t (Int32.le_refl _) hp
  · intro i hi _ hq k
    unfold PX9_areNamesSo_L2
    rw [e9, nI_31 (show i < 1000 by omega)]
    rw [zb_f (fun y : asN wr c nn r => hq (y i hi))] at hp
    exact br_f (fr_nle hi (by omega)) ⟨vp_in_q (by omega) (by omega), st i hi _ _ (fun _ => hp) (fun y => absurd y hq)⟩
  · intro k i hi hq hw2
    unfold PX9_areNamesSo_L2
    rw [e9, nI_31 (show i < 1000 by omega)]
    refine br_f (fr_nle hi (by omega)) ⟨vp_in_q (by omega) (by omega), st i hi _ _ (fun y => absurd y hq) (fun _ => ?_)⟩
    rintro _ rfl
    rw [nI_1]
    exact hw2
/-- how many rows are as named, and which is the first -/
noncomputable def rd1 (wr : Nat → Nat → Int32) (c : OV) (nn r : Nat) (p : Int32 × Int32) : Int32 × Int32 := if zb (asN wr c nn r) = 1 then (p.1 + 1, if p.1 = 0 then rv r else p.2) else p
theorem sim_ruled {n : Nat} {t c h s w z m : OV} {pp pr : Nat → OV} {im : Nat → Option IMG} {x : Int32} (sim : Sim t c h s pp pr n im m) : PX8_ruled t c h w z pr n x (fun r t' w' z' pr' => PX9_ruled m x (fun r' m' => r = r' ∧ Sim t' c h s pp pr' n im m')) := by
  have sim0 := sim
  obtain ⟨⟨S, T, Q, K, d, w0⟩, tap, rl, mi, ims⟩ := sim
  have w0' := w0
  obtain ⟨hok, hv, hr, so, hd, sr, td, ⟨nn, n7, n10, n9, nk⟩, fc, dw, ps⟩ := w0'
  have lim := hok.1
  have l1 := lim.1
  have l3 := lim.2.2.1
  have hn := rl.2.1
  unfold PX8_ruled
  refine cp_isTold hv ?_
  by_cases A : h.1 0 = 1 ∧ isIx x 2
  · rw [zb_t A]
    have tn : ¬ h.1 0 = 0 := (told_iff hv).mpr A.1
    refine br_nf (by decide) (cp_fillWritten hok rl (fun t1 w1 z1 pr1 ζ hζ tw hw q1 => ?_))
    have e5 : t1.1 5 = nI n := by rw [tw.1]; exact rl.1
    refine fr_loop (fun k r (p : Int32 × Int32) => PX8_ruled_L23 c h n _ k x p.1 p.2 (nI r) t1 w1 z1 pr1) (rd1 (WR pr ζ h S T Q K) c nn) (n + 1) (0, -2) ?_ ?_
    · intro k
      generalize hF : itn (rd1 (WR pr ζ h S T Q K) c nn) (n + 1) (0, -2) = F
      unfold PX8_ruled_L23
      rw [e5]
      have ref : ∀ post : Int32 → OV → Prop, (∀ m2, AG m m2 → Hld m m2 → ((¬ x = 0 → post F.2 m2) ∧ (x = 0 → post F.1 m2))) → PX9_ruled m x post := by
        intro post hp
        unfold PX9_ruled
        refine mp_isHill hv hr (br_f tn (mp_inC 2 (by omega) (by decide) ?_))
        rw [zb_t A.2]
        refine br_nf (by decide) (mp_keep (fun m1 k1 ag1 e50 => ?_))
        have r1 : TrI m (rhoS c pr) h S T Q K s m1 := ⟨k1, HRel_ag lim ag1 hr, SRel_ag lim ag1 sr, RuR_kp k1 ag1 (RuR_of fc rl), e50.trans mi.2⟩
        refine fr_rel (fun k r (p : (Int32 × Int32) × OV) => PX9_ruled_L32 post k x p.1.1 p.1.2 (rv r) p.2) (fun r p => p.1 = itn (rd1 (WR pr ζ h S T Q K) c nn) r (0, -2) ∧ AG m p.2 ∧ TrI m (rhoS c pr) h S T Q K s p.2) (n + 1) ((0, -2), m1) ⟨rfl, ag1, r1⟩ ?_ ?_
        · rintro k ⟨p, m2⟩ ⟨ep, ag2, r2⟩
          have ep' : p = F := Eq.trans ep hF
          subst ep'
          show PX9_ruled_L32 post (k + 1) x p.1 p.2 (rv (n + 1)) m2
          unfold PX9_ruled_L32
          rw [show m2.1 34 = nI n from (r2.1.1.1 34 (by decide)).trans rl.2.2.1]
          exact br_t (Int32.le_refl _) (hp m2 ag2 (Kp_hld r2.1 (r2.2.2.2.2.trans mi.2.symm)))
        · rintro k r ⟨p, m2⟩ hr' ⟨ep, ag2, r2⟩ next
          have ep' : p = itn (rd1 (WR pr ζ h S T Q K) c nn) r (0, -2) := ep
          show PX9_ruled_L32 post (k + 1) x p.1 p.2 (rv r) m2
          unfold PX9_ruled_L32
          rw [show m2.1 34 = nI n from (r2.1.1.1 34 (by decide)).trans rl.2.2.1]
          refine br_f (rv_ge hn (by omega)) (mp_laysWriting w0 rl mi.2 A.1 (by omega) (hζ r (by omega)) r2 ag2 (fun m3 r3 ag3 w3 _ => mp_areNamesSo (r := r) ag3 n10 n9 l3 nk w3 ?_))
          have st : itn (rd1 (WR pr ζ h S T Q K) c nn) (r + 1) (0, -2) = rd1 (WR pr ζ h S T Q K) c nn r p := by rw [ep']; rfl
          unfold rd1 at st
          rw [rv_s]
          by_cases a : asN (WR pr ζ h S T Q K) c nn r
          · rw [zb_t a] at st ⊢
            rw [if_pos rfl] at st
            refine br_f (by decide) (br_nc (fun e => ?_) (fun e => ?_))
            · rw [if_neg e] at st
              rintro _ rfl _ rfl
              exact next ((p.1 + 1, p.2), m3) ⟨st.symm, ag3, r3⟩
            · rw [if_pos e] at st
              rintro _ rfl _ rfl
              exact next ((p.1 + 1, rv r), m3) ⟨st.symm, ag3, r3⟩
          · rw [zb_f a] at st ⊢
            rw [if_neg (by decide)] at st
            refine br_t rfl ?_
            rintro _ rfl
            exact next (p, m3) ⟨st.symm, ag3, r3⟩
      have fin : ∀ m2, AG m m2 → Hld m m2 → Sim t1 c h s pp pr1 n im m2 := fun m2 a b => Sim_tw tw (Sim_keep q1 a b sim0)
      exact br_t (nI_lt (by omega) (by omega)) (br_nc (fun e => ref _ (fun m2 ag hl => br_nf e ⟨rfl, fin m2 ag hl⟩)) (fun e => ref _ (fun m2 ag hl => br_nt e ⟨rfl, fin m2 ag hl⟩)))
    · intro k r hr' hw2
      generalize itn (rd1 (WR pr ζ h S T Q K) c nn) r (0, -2) = p at hw2 ⊢
      unfold rd1 at hw2
      rw [← nI_1] at hw2
      unfold PX8_ruled_L23
      rw [e5]
      refine br_f (nI_nlt (by omega) (by omega)) (cp_isAsNamed (wr := WR pr ζ h S T Q K) hn (by omega) n10 n7 l3 (fun k hk => (nk k hk).2.2.2) hw ?_)
      rw [rv_c]
      by_cases a : asN (WR pr ζ h S T Q K) c nn r
      · rw [zb_t a] at hw2 ⊢
        rw [if_pos rfl] at hw2
        refine br_f (by decide) (br_nc (fun e => ?_) (fun e => ?_))
        · rw [if_neg e] at hw2
          rintro _ rfl _ rfl
          exact hw2
        · rw [if_pos e] at hw2
          rintro _ rfl _ rfl _ rfl
          exact hw2
      · rw [zb_f a] at hw2 ⊢
        rw [if_neg (by decide)] at hw2
        refine br_t rfl ?_
        rintro _ rfl
        exact hw2
  · rw [zb_f A]
    refine br_nt rfl ?_
    unfold PX9_ruled
    refine mp_isHill hv hr (br_c (fun _ => ⟨rfl, sim0⟩) (fun e => mp_inC 2 (by omega) (by decide) ?_))
    rw [zb_f (fun q => A ⟨(told_iff hv).mp e, q⟩)]
    exact br_nt rfl ⟨rfl, sim0⟩
