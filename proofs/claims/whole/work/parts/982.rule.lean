/-! 982: a rule is told -/
def LIr : List Nat := [30, 31, 32, 33, 34, 35, 36, 37, 38]
def LAr : List Nat := [41, 42, 43, 44, 45, 46, 47]
/-- the reference keeps the rules before the s-th -/
def KR (s : Nat) (m m' : OV) : Prop := Fr LIr LAr [] [] m m' ∧ ∀ r, r < s → ∀ u, RuleOk u → RuleRel u r m → RuleRel u r m'
theorem KR_trans {s : Nat} {a b c : OV} (x : KR s a b) (y : KR s b c) : KR s a c := ⟨Fr_trans x.1 y.1, fun r hr u ok h => y.2 r hr u ok (x.2 r hr u ok h)⟩
theorem KR_si {s k : Nat} {m : OV} {x : Int32} (hk : k ∈ LIr) : KR s m (si m k x) := ⟨Fr_si hk Fr_refl, fun r hr u ok h => RuleRel_fr (Fr_si (I := LIr) (A := []) (C := []) (L := []) hk Fr_refl) (by decide) h⟩
theorem KR_FY {s : Nat} {m m' : OV} (f : FY s 0 m m') : KR s m m' := by
  refine ⟨Fr_mono f.1 (by decide) (by decide) (fun _ h => h) (fun _ h => h), fun r hr u ok h => ⟨?_, fun i hi => ?_⟩⟩
  · rw [f.1.2.1 43 (by decide) (by decide)]
    exact h.1
  · have i12 : i < 12 := by have := ok.1; omega
    have b3 := (ok.2.2.2.2 i hi).2.2.1
    have b1 := (ok.2.2.2.2 i hi).1
    have b2 := (ok.2.2.2.2 i hi).2.1
    obtain ⟨h1, h2, h3, h4⟩ := h.2 i hi
    obtain ⟨g1, g2, g3⟩ := f.2.2 (12 * r + i) (by omega)
    refine ⟨g1.trans h1, g2.trans h2, g3.trans h3, fun j hj => ?_⟩
    obtain ⟨k1, k2⟩ := f.2.1 (300 * r + (stA u i + j)) (by omega)
    rw [k1, k2]
    exact h4 j hj
theorem KR_43 {s : Nat} {m : OV} {x : Int32} : KR s m (sa m 43 (upd (m.2.1 43) s x)) := by
  refine ⟨Fr_sa (by decide) (by decide) Fr_refl, fun r hr u ok h => ⟨?_, fun i hi => h.2 i hi⟩⟩
  show upd (m.2.1 43) s x r = _
  rw [upd_ne _ _ (by omega)]
  exact h.1
theorem isIx_up {x : Int32} {n : Nat} (h : isIx x n) : isIx x (n + 1) := by
  obtain ⟨t, ht, e⟩ := h
  exact ⟨t, by omega, e⟩
theorem Fce_up {n : Nat} {c m : OV} (h : Fce n c m) : Fce (n + 1) c m := ⟨h.1, h.2.elim Or.inl (fun y => Or.inr (isIx_up y))⟩
theorem Scn_up {n : Nat} {c h s m : OV} {pp : Nat → OV} {S T Q K d : Nat} (r : Scn n c h s pp m S T Q K d) : Scn (n + 1) c h s pp m S T Q K d := by
  obtain ⟨a1, a2, a3, a4, a5, a6, a7, a8, a9, a10, a11⟩ := r
  exact ⟨a1, a2, a3, a4, a5, a6, a7, a8, Fce_up a9, a10, a11⟩
theorem Ims_up {n : Nat} {im : Nat → Option IMG} {m : OV} (r : Ims n im m) : Ims (n + 1) im m := fun k hk => by
  rcases r k hk with y | ⟨x, a, b, S, T, Q, K, d, w⟩
  · exact Or.inl y
  · exact Or.inr ⟨x, a, b, S, T, Q, K, d, Scn_up w⟩
theorem Sim_KR {n : Nat} {t t' c h s m m' : OV} {pp pr : Nat → OV} {im : Nat → Option IMG} (sim : Sim t c h s pp pr n im m) (f : KR n m m') (tap : Tap t' m') : (∃ S T Q K d, Scn n c h s pp m' S T Q K d) ∧ Tap t' m' ∧ (∀ r, r < n → RuleOk (pr r) ∧ RuleRel (pr r) r m') ∧ (m'.1 39 = 14 ∧ m'.1 50 = 0) ∧ Ims n im m' := by
  obtain ⟨⟨S, T, Q, K, d, w⟩, _, rl, mi, ims⟩ := sim
  have ag : AG m m' := AG_fr f.1 (by decide) (by decide) rfl
  refine ⟨⟨S, T, Q, K, d, Scn_ag ag w⟩, tap, fun r hr => ⟨(rl.2.2.2 r hr).1, f.2 r hr _ (rl.2.2.2 r hr).1 (rl.2.2.2 r hr).2⟩, ⟨(f.1.1 39 (by decide)).trans mi.1, (f.1.1 50 (by decide)).trans mi.2⟩, fun k hk => ?_⟩
  rcases ims k hk with ⟨a, b⟩ | ⟨x, a, b, S, T, Q, K, d, w⟩
  · exact Or.inl ⟨a, by rw [f.1.2.1 64 (by decide) (by decide)]; exact b⟩
  · exact Or.inr ⟨x, a, by rw [f.1.2.1 64 (by decide) (by decide)]; exact b, S, T, Q, K, d, Scn_ag (vwM_ag2 (fun j _ => by rw [f.1.2.1 63 (by decide) (by decide)])) w⟩
theorem sim_rule {n : Nat} {t c h s m q r u : OV} {pp pr : Nat → OV} {im : Nat → Option IMG} (sim : Sim t c h s pp pr n im m) (u0 : u.2.1 2 0 = 0) : PX8_rule t q r u (fun a b t' q' r' u' => PX9_rule m (fun a' m' => a = a' ∧ (b = true → n < 6 ∧ Sim t' c h s pp (va_up pr n u') (n + 1) im m') ∧ (b = false → u'.2.1 2 0 = 0 ∧ Sim t' c h s pp pr n im m'))) := by
  have sim0 := sim
  obtain ⟨w, tap, rl, mi, ims⟩ := sim
  obtain ⟨B, L, tx, t1, m1⟩ := Tap_TX tap
  obtain ⟨t5, n6, m34, rok⟩ := rl
  have l4 := tx.1
  unfold PX8_rule
  rw [t5]
  refine br_c (fun lt => ?_) (fun ge => ?_)
  · have hn : n < 6 := (nI_ltI (b := 6) (by omega) (by omega)).mp lt
    rw [t1]
    unfold PX4_read PX2_open PX3_clear
    have e : (if (400 : Int32) < nI L then (400 : Int32) else nI L) = nI L := if_neg (nI_nlt (a := 400) l4 (by omega))
    rw [e]
    rintro _ rfl _ rfl _ rfl _ rfl _ rfl _ rfl _ rfl
    -- the reference's start
    have kr0 : KR n m (si (si (si (si (si (si m 33 (nI n)) 31 0) 32 0) 35 0) 36 0) 37 0) := KR_trans (KR_si (by decide)) (KR_trans (KR_si (by decide)) (KR_trans (KR_si (by decide)) (KR_trans (KR_si (by decide)) (KR_trans (KR_si (by decide)) (KR_si (by decide))))))
    have tx0 : TX B L t (si (si (si (si (si (si m 33 (nI n)) 31 0) 32 0) 35 0) 36 0) 37 0) := TX_fr kr0.1 (by decide) tx
    have rs0 : RS (si (si u 1 0) 4 0) 0 0 := by
      have sA : stA (si (si u 1 0) 4 0) 0 = 0 := by
        unfold stA
        show (u.2.1 2 0).toNatClampNeg = 0
        rw [u0]
        rfl
      refine ⟨by omega, rfl, fun j hj => ?_, fun j hj => absurd hj (by omega), sA, by omega, fun j hj => absurd hj (by omega)⟩
      obtain rfl : j = 0 := by omega
      rw [sA]
      exact ⟨u0, Nat.le_refl 0⟩
    have ok0 : Uok (si (si u 1 0) 4 0) := ⟨0, 0, by omega, by omega, rfl, rfl, u0⟩
    refine ⟨14, cs_run tx0 hn 12 0 (by omega) 0 0 0 _ _ _ 0 14 (by omega) ⟨Nat.zero_le L, ⟨rfl, rfl, rfl⟩, ok0, Or.inl rfl, fun _ => ⟨rfl, rfl⟩⟩ rs0 (by omega) (by omega) (by omega) (fun F q' r' u' fo oz tr nok => ?_)⟩
    rintro _ rfl
    -- the reference's end
    have fin : ∀ (pm : Int32 → OV → Prop), (∀ m' n', KR n m m' → m'.1 32 = F → m'.1 33 = nI n → m'.1 34 = nI n → (F = 0 → ∃ e', RS u' n' e' ∧ RSm u' n' n m' ∧ ∀ j, j < e' → stepR (u'.2.1 0 j) (m'.2.1 41 (300 * n + j)) (m'.2.1 42 (300 * n + j))) → PX9_rule_L27 pm 1 (nI n') 0 m') → PX9_rule m pm := by
      intro pm hpm
      unfold PX9_rule PX9_starts
      rw [m34]
      refine br_nf (fun y => ?_) ?_
      · have : n = 6 := nI_inj (b := 6) (by omega) (by omega) y
        omega
      · rintro _ rfl _ rfl _ rfl _ rfl _ rfl _ rfl _ rfl
        refine ⟨14, tr 14 _ pm (by omega) ?_ rfl (fun j hj => absurd hj (by omega)) (fun m' nf' n' f' mc' e32 rel => ?_)⟩
        · refine ⟨⟨rfl, m1, rfl, mi.1⟩, rfl, ⟨0, by omega, rfl⟩, fun _ => ⟨Nat.zero_le L, rfl, rfl, rfl, fun j hj => absurd hj (by omega)⟩⟩
        · have kr := KR_trans kr0 (KR_FY f')
          have e34 : m'.1 34 = nI n := (f'.1.1 34 (by decide)).trans m34
          have := hpm m' n' kr e32 mc'.2.2.1 e34 rel
          unfold PX9_rule_L27 at this ⊢
          exact br_t rfl (this.1 rfl)
    have ends : ∀ {pm : Int32 → OV → Prop} {m' : OV} {n' : Nat}, m'.1 33 = nI n → m'.1 34 = nI n → m'.1 32 = F → (F = 0 → pm (nI (n + 1) - 1) (si (sa (si m' 30 0) 43 (upd (m'.2.1 43) n (nI n'))) 34 (nI (n + 1)))) → (¬ F = 0 → pm (-2 - F) (si (sa (si m' 30 0) 43 (upd (m'.2.1 43) n (nI n'))) 34 (nI n))) → PX9_rule_L27 pm 1 (nI n') 0 m' := by
      intro pm m' n' e33 e34 e32 h0 h1
      unfold PX9_rule_L27
      refine br_t rfl ?_
      rintro _ rfl
      rw [show (si m' 30 0).1 33 = nI n from e33]
      refine ⟨vp_in_q hn (by omega), ?_⟩
      rw [nI_31 (show n < 1000 by omega)]
      rintro _ rfl
      have e32' : (sa (si m' 30 0) 43 (upd ((si m' 30 0).2.1 43) n (nI n'))).1 32 = F := e32
      have e34' : (sa (si m' 30 0) 43 (upd ((si m' 30 0).2.1 43) n (nI n'))).1 34 = nI n := e34
      rw [e32', e34']
      refine br_nc (fun f0 => ?_) (fun f0 => ?_)
      · unfold PX9_rule_b79
        rw [Int32.add_zero]
        rintro _ rfl _ rfl
        have e32b : (si (sa (si m' 30 0) 43 (upd ((si m' 30 0).2.1 43) n (nI n'))) 34 (nI n)).1 32 = F := e32
        rw [e32b]
        exact br_f (fun y => f0 ((FOk_le fo).mp y)) (h1 f0)
      · unfold PX9_rule_b79
        rw [nI_1]
        rintro _ rfl _ rfl
        have e32b : (si (sa (si m' 30 0) 43 (upd ((si m' 30 0).2.1 43) n (nI n'))) 34 (nI (n + 1))).1 32 = F := e32
        rw [e32b, si_at]
        exact br_t (by rw [f0]; decide) (h0 f0)
    refine br_c (fun f0 => ?_) (fun f0 => ?_)
    · have e5 : (si t 1 0).1 5 = nI n := t5
      rw [e5, nI_1]
      refine ⟨vp_in_q hn (by omega), ?_⟩
      rintro _ rfl
      rw [si_at]
      refine fin _ (fun m' n' kr e32 e33 e34 rel => ends e33 e34 e32 (fun _ => ⟨rfl, fun _ => ⟨hn, ?_⟩, fun y => absurd y (by decide)⟩) (fun y => absurd f0 y))
      obtain ⟨e', rs', rm', st'⟩ := rel f0
      have kr2 : KR n m (si (sa (si m' 30 0) 43 (upd (m'.2.1 43) n (nI n'))) 34 (nI (n + 1))) := KR_trans kr (KR_trans (KR_si (by decide)) (KR_trans (KR_43 (m := si m' 30 0)) (KR_si (by decide))))
      obtain ⟨g1, g2, g3, g4, g5⟩ := Sim_KR (t' := si (si t 1 0) 5 (nI (n + 1))) sim0 kr2 (Tap_0 rfl rfl)
      obtain ⟨ro, rn⟩ := RS_ok rs'
      refine ⟨?_, g2, ⟨rfl, by omega, rfl, fun r' hr' => ?_⟩, g4, Ims_up g5⟩
      · obtain ⟨S, T, Q, K, d, w⟩ := g1
        exact ⟨S, T, Q, K, d, Scn_up w⟩
      · unfold va_up
        rcases Nat.lt_or_ge r' n with c | c
        · rw [if_neg (by omega)]
          exact g3 r' c
        · have : r' = n := by omega
          subst this
          rw [if_pos rfl]
          refine ⟨ro, ?_, fun i hi => ?_⟩
          · rw [rn]
            show upd (m'.2.1 43) r' (nI n') r' = nI n'
            rw [upd_eq]
          · rw [rn] at hi
            obtain ⟨a, b, c⟩ := rm' i hi
            refine ⟨a, b, c, fun j hj => ?_⟩
            have le := (rs'.2.2.1 (i + 1) hi).2
            have le2 := (rs'.2.2.2.2.2.2 i hi).1
            have le3 := (rs'.2.2.2.2.2.2 i hi).2.1
            exact st' (stA u' i + j) (by omega)
    · refine fin _ (fun m' n' kr e32 e33 e34 rel => ends e33 e34 e32 (fun y => absurd y f0) (fun _ => ⟨rfl, fun y => absurd y (by decide), fun _ => ⟨?_, ?_⟩⟩))
      · obtain ⟨_, _, _, _, _, _, e⟩ := nok f0
        exact e
      · have kr2 : KR n m (si (sa (si m' 30 0) 43 (upd (m'.2.1 43) n (nI n'))) 34 (nI n)) := KR_trans kr (KR_trans (KR_si (by decide)) (KR_trans (KR_43 (m := si m' 30 0)) (KR_si (by decide))))
        obtain ⟨g1, g2, g3, g4, g5⟩ := Sim_KR (t' := si t 1 0) sim0 kr2 (Tap_0 rfl rfl)
        exact ⟨g1, g2, ⟨t5, n6, rfl, g3⟩, g4, g5⟩
  · have hn : n = 6 := by
      rcases Nat.lt_or_ge n 6 with y | y
      · exact absurd (nI_lt (b := 6) y (by omega)) ge
      · omega
    unfold PX9_rule
    rw [m34, hn]
    refine br_nt rfl ⟨rfl, fun y => absurd y (by decide), fun _ => ⟨u0, ?_⟩⟩
    rw [← hn]
    exact sim0
