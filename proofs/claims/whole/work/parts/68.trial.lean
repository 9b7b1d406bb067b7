/-! 68: trials; what is kept ahead of an act -/
def Kp (m m2 : OV) : Prop := Fr [50, 53, 54, 65, 66] [5, 6, 9, 11, 12, 13, 51, 60, 61, 62, 63, 56] BC [48, 49, 52] m m2 ∧ Cp 63 3800 m m2 LCur ∧ ∀ j, j < 3800 → m2.2.1 63 j = m.2.1 63 j
theorem mp_keep {m : OV} {post : OV → Prop} (hp : ∀ m1, Kp m m1 → AG m m1 → m1.1 50 = m.1 50 → post m1) : PX9_keepsAll m post := mp_keepsAll (fun m1 f c e => hp m1 ⟨Fr_mono f (by decide) (by decide) (by decide) (by decide), c, e⟩ (AG_fr f (by decide) (by decide) rfl) (f.1 50 (by decide)))
theorem Kp_fr {m m1 m2 : OV} {I A C L : List Nat} (k : Kp m m1) (f : Fr I A C L m1 m2) (hI : ∀ x ∈ I, x ∈ [50, 53, 54, 65, 66]) (hA : ∀ x ∈ A, x ∈ [5, 6, 9, 11, 12, 13, 51, 60, 61, 62, 56]) (hC : ∀ x ∈ C, x ∈ BC) (hL : ∀ x ∈ L, x ∈ [48, 49, 52]) : Kp m m2 := by
  obtain ⟨a, b, c⟩ := k
  have n63 : 63 ∉ A := fun h => absurd (hA 63 h) (by decide)
  have e63 : m2.2.1 63 = m1.2.1 63 := f.2.1 63 n63 (by decide)
  refine ⟨Fr_trans a (Fr_mono f hI (fun x hx => ?_) hC hL), fun p hp j hj => by rw [e63]; exact b p hp j hj, fun j hj => by rw [e63]; exact c j hj⟩
  have all : ∀ y ∈ [5, 6, 9, 11, 12, 13, 51, 60, 61, 62, 56], y ∈ [5, 6, 9, 11, 12, 13, 51, 60, 61, 62, 63, 56] := by decide
  exact all x (hA x hx)
theorem lay_ag {m m2 m3 : OV} (k : Kp m m2) (f : Fr [65, 66] [1, 5, 6, 9, 11, 12, 13] BC [] m2 m3) (l : Ld 63 3800 m2 m3 LCur) : AG m m3 := by
  have f' : Fr [65, 66] [5, 6, 9, 11, 12, 13] BC [] m2 m3 := ⟨f.1, fun j hj n => f.2.1 j (fun y => by
    rcases List.mem_cons.mp y with z | z
    · exact n z
    · exact hj z) n, f.2.2.1, f.2.2.2⟩
  have k3 := Kp_fr k f' (by decide) (by decide) (by decide) (by decide)
  refine ⟨?_, k3.1.1 57 (by decide)⟩
  have cur : ∀ off gk n, (off, gk, 0, n) ∈ LCur → ∀ j, j < n → m3.2.1 gk j = m.2.1 gk j := by
    intro off gk n h j hj
    have a := l _ h j hj
    have b := k.2.1 _ h j hj
    rw [Nat.zero_add] at a b
    exact a.trans b
  have oth : ∀ gk, gk ≠ 1 → gk ∉ [5, 6, 9, 11, 12, 13, 51, 60, 61, 62, 63, 56] → ∀ j, m3.2.1 gk j = m.2.1 gk j := fun gk n h j => by rw [k3.1.2.1 gk h n]
  intro p hp
  simp only [LAg, List.mem_cons, List.not_mem_nil, or_false] at hp
  rcases hp with rfl | rfl | rfl | rfl | rfl | rfl | rfl | rfl | rfl | rfl | rfl | rfl | rfl | rfl | rfl | rfl | rfl | rfl | rfl | rfl
  · exact cur 0 1 12 (by decide)
  · exact cur 12 5 10 (by decide)
  · exact cur 22 6 6 (by decide)
  · exact cur 28 9 4 (by decide)
  · exact cur 32 11 4 (by decide)
  · exact cur 36 12 4 (by decide)
  · exact cur 40 13 4 (by decide)
  · exact fun j _ => oth 2 (by decide) (by decide) j
  · exact fun j _ => oth 3 (by decide) (by decide) j
  · exact fun j _ => oth 4 (by decide) (by decide) j
  · exact fun j _ => oth 7 (by decide) (by decide) j
  · exact fun j _ => oth 8 (by decide) (by decide) j
  · exact fun j _ => oth 10 (by decide) (by decide) j
  · exact fun j _ => oth 14 (by decide) (by decide) j
  · exact fun j _ => oth 15 (by decide) (by decide) j
  · exact fun j _ => oth 16 (by decide) (by decide) j
  · exact fun j _ => oth 17 (by decide) (by decide) j
  · exact fun j _ => oth 18 (by decide) (by decide) j
  · exact fun j _ => oth 19 (by decide) (by decide) j
  · exact fun j _ => oth 55 (by decide) (by decide) j
theorem mp_lay {m m2 : OV} (k : Kp m m2) {post : OV → Prop} (hp : ∀ m3, Kp m m3 → AG m m3 → m3.1 50 = m2.1 50 → post m3) : PX9_laysBack m2 post := by
  refine mp_laysBack (fun m3 f l => ?_)
  have f' : Fr [65, 66] [5, 6, 9, 11, 12, 13] BC [] m2 m3 := ⟨f.1, fun j hj n => f.2.1 j (fun y => by
    rcases List.mem_cons.mp y with z | z
    · exact n z
    · exact hj z) n, f.2.2.1, f.2.2.2⟩
  exact hp m3 (Kp_fr k f' (by decide) (by decide) (by decide) (by decide)) (lay_ag k f l) (f.1 50 (by decide))
theorem Kp_hld {m m3 : OV} (k : Kp m m3) (e : m3.1 50 = m.1 50) : Hld m m3 := ⟨⟨k.1.1 30 (by decide), k.1.1 34 (by decide), k.1.1 39 (by decide), e⟩, fun x hx => by
  have all : ∀ y ∈ [40, 41, 42, 43, 44, 45, 46, 64], y ∉ [5, 6, 9, 11, 12, 13, 51, 60, 61, 62, 63, 56] ∧ y ≠ 1 := by decide
  exact k.1.2.1 x (all x hx).1 (all x hx).2, k.2.2⟩
theorem RuR_kp {ρ : Option OV} {m m1 : OV} (k : Kp m m1) (a : AG m m1) (r : RuR ρ m) : RuR ρ m1 := by
  have e11 := a.1 (1, 12) (by decide) 11 (by decide)
  cases ρ with
  | none => exact e11.trans r
  | some u =>
    obtain ⟨ok, i, hi, e, rel⟩ := r
    refine ⟨ok, i, hi, e11.trans e, RuleRel_fr (I := [50, 53, 54, 65, 66]) (A := [5, 6, 9, 11, 12, 13, 51, 60, 61, 62, 63, 56]) (C := BC) (L := [48, 49, 52]) k.1 (by decide) rel⟩
/-! days by the class, on trial -/
noncomputable def dsN (ρ : Option OV) (h : OV) (S T Q K n : Nat) (z : OV) : Int32 := itn (fun i c => c + pasN ρ h S T Q (daysS ρ h S T Q K i z)) n 0
theorem cp_goOn {n N : Nat} {t c h w z m : OV} {pr : Nat → OV} {S T Q K : Nat} (hN : N < 1000) (hok : Hok h S T Q K) (f : Fce n c m) (r : Rls n t pr m) {post : Int32 → OV → OV → (Nat → OV) → Prop} (hp : ∀ w' pr', PrEq pr pr' → post (dsN (rhoS c pr) h S T Q K N z) w' (daysS (rhoS c pr) h S T Q K N z) pr') : PX8_goOn t c h w z pr n (nI N) post := by
  unfold PX8_goOn
  refine cp_ruleInForce f r (fun o ho eo => ?_)
  rw [← eo] at hp
  refine fr_rel (fun k i (p : Int32 × OV × OV × (Nat → OV)) => PX8_goOn_L10 t c h n post k (nI N) o p.1 (nI i) p.2.1 p.2.2.1 p.2.2.2) (fun i p => p.1 = dsN (rhoO pr o) h S T Q K i z ∧ p.2.2.1 = daysS (rhoO pr o) h S T Q K i z ∧ PrEq pr p.2.2.2) N (0, w, z, pr) ⟨rfl, rfl, PrEq_refl pr⟩ ?_ ?_
  · rintro k ⟨x, w1, z1, pr1⟩ ⟨e1, e2, e3⟩
    show PX8_goOn_L10 t c h n post (k + 1) (nI N) o x (nI N) w1 z1 pr1
    unfold PX8_goOn_L10
    refine br_t (Int32.le_refl _) ?_
    rw [show x = _ from e1, show z1 = _ from e2]
    exact hp w1 pr1 e3
  · rintro k i ⟨x, w1, z1, pr1⟩ hi ⟨e1, e2, e3⟩ next
    have e1' : x = dsN (rhoO pr o) h S T Q K i z := e1
    have e2' : z1 = daysS (rhoO pr o) h S T Q K i z := e2
    have e3' : PrEq pr pr1 := e3
    show PX8_goOn_L10 t c h n post (k + 1) (nI N) o x (nI i) w1 z1 pr1
    unfold PX8_goOn_L10
    refine br_f (fr_nle hi (by omega)) ⟨fun en => ?_, fun j ej => ?_⟩
    · subst en
      refine cp_pass_N hok (fun w2 => ?_)
      rintro _ rfl _ rfl
      rw [nI_1]
      refine next (_, _, _, _) ⟨?_, ?_, e3'⟩
      · show x + pasN none h S T Q z1 = dsN (rhoO pr none) h S T Q K (i + 1) z
        rw [e1', e2']
        rfl
      · show passS none h S T Q K (¬ (0 : Int32) = 0) z1 = daysS (rhoO pr none) h S T Q K (i + 1) z
        rw [e2', show (¬ (0 : Int32) = 0) = False from eq_false (by decide)]
        rfl
    · subst ej
      obtain ⟨g, eg⟩ := e3' j
      have ok : RuleOk (pr1 j) := by rw [eg]; exact (r.2.2.2 j (ho j rfl)).1
      refine cp_pass_R hok ok (fun w2 f2 => ?_)
      rintro _ rfl _ rfl
      rw [nI_1, eg, pasN_sl, pass_sl, sl_sl]
      refine next (_, _, _, _) ⟨?_, ?_, ?_⟩
      · show x + pasN (some (pr j)) h S T Q z1 = dsN (rhoO pr (some j)) h S T Q K (i + 1) z
        rw [e1', e2']
        rfl
      · show passS (some (pr j)) h S T Q K (¬ (0 : Int32) = 0) z1 = daysS (rhoO pr (some j)) h S T Q K (i + 1) z
        rw [e2', show (¬ (0 : Int32) = 0) = False from eq_false (by decide)]
        rfl
      · intro y
        show ∃ f, va_up pr1 j (sl (pr j) 5 f2) y = sl (pr y) 5 f
        unfold va_up
        by_cases q : y = j
        · exact ⟨f2, by rw [if_pos q, q]⟩
        · obtain ⟨g', e'⟩ := e3' y
          exact ⟨g', by rw [if_neg q]; exact e'⟩
/-! acts -/
theorem md20 : ∀ p, p < 20 → (nI p + 1) - (nI p + 1) / 20 * 20 = nI ((p + 1) % 20) ∧ (nI p + 20 - 1) - (nI p + 20 - 1) / 20 * 20 = nI ((p + 19) % 20) := by decide +kernel
def up20 (a : Nat) : Nat := if a + 1 < 20 then a + 1 else 20
def remC (c : OV) (p a : Nat) : OV := si (si c 5 (nI ((p + 1) % 20))) 6 (nI (up20 a))
theorem cp_remember {c s : OV} {pp : Nat → OV} {p a : Nat} (hp20 : p < 20) (ha : a ≤ 20) (e5 : c.1 5 = nI p) (e6 : c.1 6 = nI a) {post : OV → (Nat → OV) → Prop} (hp : ∀ z, SEq s z → post (remC c p a) (va_up pp p z)) : PX5_remember c s pp post := by
  unfold PX5_remember
  rw [e5, nI_31 (show p < 1000 by omega), (md20 p hp20).1]
  refine ⟨vp_in_q hp20 (by omega), hp20, cp_copy (fun z ez => ?_)⟩
  rintro _ rfl _ rfl
  rw [show (si c 5 (nI ((p + 1) % 20))).1 6 = nI a from e6, nI_1]
  have e : (if nI (a + 1) < 20 then nI (a + 1) else (20 : Int32)) = nI (up20 a) := by
    unfold up20
    by_cases c : a + 1 < 20
    · rw [if_pos c, if_pos (show nI (a + 1) < (20 : Int32) from nI_lt (b := 20) c (by omega))]
    · rw [if_neg c, if_neg (show ¬ nI (a + 1) < (20 : Int32) from nI_nlt (a := a + 1) (b := 20) (by omega) (by omega))]
      rfl
  rw [e]
  rintro _ rfl _ rfl
  exact hp z ez
theorem mp_keepsAct {m s : OV} {S T Q K a : Nat} (lim : Lim S T Q K) (ha : a ≤ 20) (e57 : m.1 57 = nI a) (sr : SRel s S T Q m) {post : OV → Prop} (hp : ∀ m', Fr [57, 58, 59] [55] [] [] m m' → m'.1 57 = nI (up20 a) → (∀ i, i < up20 a - 1 → ∀ j, j < 35 → m'.2.1 55 (35 * i + j) = m.2.1 55 (35 * (i + (a + 1 - up20 a)) + j)) → Row S T Q s (fun j => m'.2.1 55 (35 * (up20 a - 1) + j)) → post m') : PX9_keepsAct m post := by
  obtain ⟨l1, l2, l3, l4⟩ := lim
  unfold PX9_keepsAct
  have b50 : ∀ m1 b, b < 20 → up20 a = b + 1 → Fr [57, 58, 59] [55] [] [] m m1 → m1.1 57 = nI b → SRel s S T Q m1 → (∀ i, i < b → ∀ j, j < 35 → m1.2.1 55 (35 * i + j) = m.2.1 55 (35 * (i + (a + 1 - up20 a)) + j)) → PX9_keepsAct_b50 post m1 := by
    intro m1 b hb eb f e sr1 rows
    unfold PX9_keepsAct_b50
    rw [e]
    refine mp_movesF hb (fun m2 f2 c2 o2 => ?_)
    rw [show m2.1 57 = nI b from (f2.1 57 (by decide)).trans e, nI_1]
    rintro _ rfl _ rfl
    refine hp _ (Fr_si (by decide) (Fr_trans f (Fr_mono f2 (by decide) (by decide) (by decide) (by decide)))) (by rw [eb]; rfl) (fun i hi j hj => ?_) ?_
    · rw [eb] at hi
      show m2.2.1 55 (35 * i + j) = _
      rw [o2 _ (by omega)]
      exact rows i (by omega) j hj
    · rw [eb]
      exact Row_of l1 l2 l3 sr1 c2
  by_cases c : a = 20
  · subst c
    refine br_nt e57 ?_
    refine fr_rel (fun n i m1 => PX9_keepsAct_L12 post n (nI (35 + i)) m1) (fun i m1 => Fr [] [55] [] [] m m1 ∧ (∀ j, j < i → m1.2.1 55 j = m.2.1 55 (j + 35)) ∧ ∀ j, i ≤ j → m1.2.1 55 j = m.2.1 55 j) 665 m ⟨Fr_refl, fun j hj => absurd hj (Nat.not_lt_zero j), fun _ _ => rfl⟩ ?_ ?_
    · rintro n m1 ⟨f, x, y⟩
      unfold PX9_keepsAct_L12
      refine br_t (Int32.le_refl _) ?_
      rw [show m1.1 57 = nI (19 + 1) from (f.1 57 (by decide)).trans e57, nI_dn1]
      rintro _ rfl _ rfl
      refine b50 _ 19 (by omega) rfl (Fr_si (by decide) (Fr_mono f (by decide) (by decide) (by decide) (by decide))) rfl (SRel_fr (Fr_si (I := [57]) (k := 57) (by decide) (Fr_mono f (by decide) (by decide) (by decide) (by decide) : Fr [57] [55] [] [] m m1)) (by decide) (by decide) sr) (fun i hi j hj => ?_)
      show m1.2.1 55 (35 * i + j) = _
      rw [x _ (by omega)]
      rw [show 35 * i + j + 35 = 35 * (i + (20 + 1 - up20 20)) + j by rw [show up20 20 = 20 from rfl]; omega]
    · rintro n i m1 hi ⟨f, x, y⟩ next
      unfold PX9_keepsAct_L12
      rw [nI_31 (show 35 + i < 1000 by omega), show nI (35 + i) - 35 = nI i from by rw [show (35 : Int32) = nI 35 from rfl, pk_sub (by omega)]; congr 1; omega, nI_31 (show i < 1000 by omega)]
      refine br_f (fr_nle (b := 700) (by omega) (by omega)) ⟨vp_in_q (by omega) (by omega), ?_⟩
      rintro _ rfl
      refine ⟨vp_in_q (by omega) (by omega), ?_⟩
      rintro _ rfl _ rfl
      rw [nI_1]
      refine next _ ⟨Fr_sa (by decide) (by decide) f, fun j hj => ?_, fun j hj => ?_⟩
      · show upd (m1.2.1 55) i (m1.2.1 55 (35 + i)) j = _
        by_cases e : j = i
        · rw [e, upd_eq, y _ (by omega), Nat.add_comm]
        · rw [upd_ne _ _ e]
          exact x j (by omega)
      · show upd (m1.2.1 55) i (m1.2.1 55 (35 + i)) j = _
        rw [upd_ne _ _ (by omega)]
        exact y j (by omega)
  · refine br_nf (by rw [e57]; exact fun e => c (nI_inj (b := 20) (by omega) (by omega) e)) ?_
    have eu : up20 a = a + 1 := by unfold up20; split <;> omega
    refine b50 m a (by omega) eu Fr_refl e57 sr (fun i hi j hj => ?_)
    rw [eu, Nat.sub_self, Nat.add_zero]
/-- an act is kept in both -/
theorem Pst_rem {c s m m' z : OV} {S T Q K d p a : Nat} {pp : Nat → OV} (lim : Lim S T Q K) (so : Sok s S Q d d) (hd : d ≤ 999) (ez : SEq s z) (hp20 : p < 20) (ha : a ≤ 20) (e57 : m'.1 57 = nI (up20 a)) (rows : ∀ i, i < up20 a - 1 → ∀ j, j < 35 → m'.2.1 55 (35 * i + j) = m.2.1 55 (35 * (i + (a + 1 - up20 a)) + j)) (row : Row S T Q s (fun j => m'.2.1 55 (35 * (up20 a - 1) + j))) (old : ∀ i, i < a → Row S T Q (pp ((p + 20 - a + i) % 20)) (fun j => m.2.1 55 (35 * i + j)) ∧ ∃ d, d ≤ 999 ∧ Sok (pp ((p + 20 - a + i) % 20)) S Q d d) : Pst S T Q (remC c p a) (va_up pp p z) m' := by
  obtain ⟨l1, l2, l3, l4⟩ := lim
  have u1 : up20 a ≤ 20 ∧ 1 ≤ up20 a ∧ up20 a ≤ a + 1 ∧ (a < 20 → up20 a = a + 1) ∧ (a = 20 → up20 a = 20) := by unfold up20; split <;> omega
  refine ⟨up20 a, (p + 1) % 20, rfl, rfl, u1.1, Nat.mod_lt _ (by omega), e57, fun i hi => ?_⟩
  by_cases c : i = up20 a - 1
  · have ei : ((p + 1) % 20 + 20 - up20 a + i) % 20 = p := by omega
    rw [ei, show va_up pp p z p = z from if_pos rfl, c]
    exact ⟨Row_eq l1 l2 l3 ez row, d, hd, Sok_eq l1 ez so⟩
  · have ei : ((p + 1) % 20 + 20 - up20 a + i) % 20 = (p + 20 - a + (i + (a + 1 - up20 a))) % 20 := by omega
    have hi2 : i + (a + 1 - up20 a) < a := by omega
    have ne : (p + 20 - a + (i + (a + 1 - up20 a))) % 20 ≠ p := by omega
    rw [ei, show va_up pp p z ((p + 20 - a + (i + (a + 1 - up20 a))) % 20) = pp _ from if_neg ne]
    exact ⟨Row_congr l1 l2 l3 (rows i (by omega)) (old _ hi2).1, (old _ hi2).2⟩
