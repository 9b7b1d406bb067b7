/-! 96: reading a value of a rule -/
def CS (L : Nat) (F : Int32) (p e k : Nat) (q r u : OV) : Prop := p ≤ L ∧ RD r L p F ∧ Uok u ∧ FOk F ∧ (F = 0 → q.1 2 = nI k ∧ u.1 1 = nI e)
theorem CS_F {L p e k : Nat} {F : Int32} {q r u : OV} (nz : ¬ F = 0) (fo : FOk F) (hp : p ≤ L) (rd : RD r L p F) (ok : Uok u) : CS L F p e k q r u := ⟨hp, rd, ok, fo, fun z => absurd z nz⟩
theorem FOk_cF {k pl : Nat} (h : pl ≤ 400) : FOk (cF k pl) := by
  unfold cF
  by_cases c : k = 60
  · rw [if_pos c]; exact FOk_flt h (by omega)
  · rw [if_neg c]; exact Or.inl rfl
theorem FOk_f0 {p : Nat} (h : p ≤ 400) : FOk (flt p 0) := FOk_flt (k := 0) h (by omega)
def IR : List Nat := [31, 32, 35, 37]
def AR : List Nat := [41, 42]
/-- what the reference's piece X does, from the fault 0 on -/
def TR (m0 : OV) (L s p e k : Nat) (st : Nat → Int32) (F' : Int32) (p' e' k' : Nat) (st' : Nat → Int32) (I A : List Nat) (X : OV → (OV → Prop) → Prop) : Prop := ∀ m, MS m0 L s 0 p e k st m → ∀ pm : OV → Prop, (∀ m', FX I A s m m' → MS m0 L s F' p' e' k' st' m' → pm m') → X m pm
theorem MS_mv {m0 m m' : OV} {L s p p' e k : Nat} {F : Int32} {st : Nat → Int32} (w : MS m0 L s 0 p e k st m) (f : Fr [31, 32] [] [] [] m m') (r : RM m' L p' F) (hp : p' ≤ L) : MS m0 L s F p' e k st m' := by
  obtain ⟨mc, e32, _, g⟩ := w
  obtain ⟨_, e31, e35, e37, rel⟩ := g rfl
  refine ⟨MC_fr mc f (by decide) (by decide), r.2.2, ⟨p', by omega, r.2.1⟩, fun _ => ⟨hp, r.2.1, (f.1 35 (by decide)).trans e35, (f.1 37 (by decide)).trans e37, fun j hj => ?_⟩⟩
  rw [f.2.1 41 (by decide) (by decide), f.2.1 42 (by decide) (by decide)]
  exact rel j hj
theorem FX_31 {m m' : OV} {s : Nat} {I A : List Nat} (f : Fr [31, 32] [] [] [] m m') (h1 : 31 ∈ I) (h2 : 32 ∈ I) : FX I A s m m' := FX_mono (FX_fr f (by decide) (by decide)) (fun k hk => by
  rcases List.mem_cons.mp hk with e | hk
  · rw [e]; exact h1
  · rw [List.mem_singleton.mp hk]; exact h2) (fun k hk => absurd hk (List.not_mem_nil))
theorem nm_dg {B : Nat → Nat} {L p : Nat} (hp : p ≤ L) : nmK B L p 0 99999 = dgK B L p := by
  have h5 : dvS B p (dgn B L p) < 100000 := dv_5 (dg_run hp)
  unfold nmK dgK
  by_cases z : dgn B L p = 0
  · rw [if_pos z, if_pos z]
  · rw [if_neg z, if_neg z]
    by_cases g : 5 < dgn B L p
    · rw [if_pos g, if_pos (Or.inl g)]
    · rw [if_neg g, if_neg]
      rintro (y | y | y)
      · exact g y
      · exact nI_pos (n := dvS B p (dgn B L p)) (by omega) y
      · exact absurd y (Int32.not_lt.mpr (fr_le2 h5))
theorem flt_dg {B : Nat → Nat} {L p : Nat} (hl : L ≤ 400) (hp : p ≤ L) : dgK B L p = 0 ∨ ∃ k, k < 8 ∧ dgK B L p = flt p (nI k) := by
  unfold dgK
  by_cases z : dgn B L p = 0
  · exact Or.inr ⟨0, by omega, by rw [if_pos z]; rfl⟩
  · rw [if_neg z]
    by_cases g : 5 < dgn B L p
    · exact Or.inr ⟨1, by omega, by rw [if_pos g]; rfl⟩
    · exact Or.inl (if_neg g)
theorem FOk_dg {B : Nat → Nat} {L p : Nat} (hl : L ≤ 400) (hp : p ≤ L) : FOk (dgK B L p) := by
  rcases flt_dg (B := B) hl hp with h | ⟨k, hk, h⟩
  · exact Or.inl h
  · rw [h]; exact FOk_flt (by omega) hk
theorem kwR_30 : ∀ k, k < 14 → kwR k < 30 := by decide
theorem kwR_ne : ∀ a, a < 14 → ∀ b, b < 14 → (slen (kwR a) = slen (kwR b) ∧ ∀ j, j < slen (kwR a) → sc (kwR a) j = sc (kwR b) j) → a = b := by
  have all : ∀ a, a < 14 → ∀ b, b < 14 → (decide (slen (kwR a) = slen (kwR b)) && (List.range (slen (kwR a))).all (fun j => decide (sc (kwR a) j = sc (kwR b) j))) = true → a = b := by decide +kernel
  intro a ha b hb h
  refine all a ha b hb ?_
  rw [Bool.and_eq_true]
  refine ⟨decide_eq_true h.1, List.all_eq_true.mpr (fun j hj => decide_eq_true (h.2 j (List.mem_range.mp hj)))⟩
theorem mp_wordOf {j : Nat} (hj : j < 14) {post : Nat → Prop} (hp : post (kwR j)) : PX9_wordOf (nI j) post := by
  unfold PX9_wordOf
  have cs : j = 0 ∨ j = 1 ∨ j = 2 ∨ j = 3 ∨ j = 4 ∨ j = 5 ∨ j = 6 ∨ j = 7 ∨ j = 8 ∨ j = 9 ∨ j = 10 ∨ j = 11 ∨ j = 12 ∨ j = 13 := by omega
  rcases cs with rfl | rfl | rfl | rfl | rfl | rfl | rfl | rfl | rfl | rfl | rfl | rfl | rfl | rfl <;> (repeat (first | exact br_t rfl hp | exact hp | refine br_f (by decide) ?_))
theorem FX_nil {I A : List Nat} {s : Nat} {m : OV} : FX I A s m m := ⟨Fr_refl, fun _ _ => ⟨rfl, rfl⟩⟩
theorem Uok_rfl (u : OV) : UF u u ∧ PE 0 u u := ⟨UF_refl u, PE_refl 0 u⟩
/-- the reference's counting and its entry behind it -/
theorem mp_cnt_entry {m0 m : OV} {L s p e k pl n : Nat} {st : Nat → Int32} {x K N : Int32} (hL : L ≤ 400) (hs : s < 6) (he : e < 300) (hk : k ≤ 60) (hpl : pl ≤ 400) (hn : p + n ≤ L) (w : MS m0 L s 0 p e k st m) (sr : stepR x K N) {X : OV → (OV → Prop) → Prop} (hX : ∀ m1 pm1, (m1.1 31 = nI p → (∀ m2, m2 = si m1 31 (nI (p + n)) → PX9_entry m2 K N pm1) → X m1 pm1)) {pm : OV → Prop} (hq : ∀ m', FX IR AR s m m' → MS m0 L s (cF k pl) (p + n) (e + 1) (k + 1) (upd st e x) m' → pm m') : PX9_isCounted m (nI pl) (fun m1 => X m1 pm) := by
  refine mp_counted hL hk hpl w (fun m1 f1 w1 => ?_)
  have e31 : m1.1 31 = nI p := (f1.1 31 (by decide)).trans (w.2.2.2 rfl).2.1
  refine hX m1 pm e31 ?_
  rintro _ rfl
  have fx1 : FX IR AR s m m1 := FX_mono (FX_fr f1 (by decide) (by decide)) (by decide) (by decide)
  have f2 : Fr [31, 32] [] [] [] m1 (si m1 31 (nI (p + n))) := Fr_si (by decide) Fr_refl
  have fx2 : FX IR AR s m (si m1 31 (nI (p + n))) := FX_trans fx1 (FX_31 f2 (by decide) (by decide))
  by_cases z : cF k pl = 0
  · rw [z] at w1 hq
    have w2 : MS m0 L s 0 (p + n) e (k + 1) st (si m1 31 (nI (p + n))) := MS_mv w1 f2 ⟨w1.1.2.1, rfl, w1.2.1⟩ hn
    refine mp_entry hs he w2 sr (fun m' f w' => hq m' (FX_trans fx2 (FX_mono f (by decide) (by decide))) w')
  · have h32 : (si m1 31 (nI (p + n))).1 32 = cF k pl := w1.2.1
    refine mp_entry_no (by rw [h32]; exact z) (hq _ fx2 ?_)
    exact MS_F _ _ _ _ (MC_fr w1.1 f2 (by decide) (by decide)) z h32 ⟨p + n, by omega, rfl⟩
theorem mp_words {t m : OV} {B : Nat → Nat} {L p : Nat} {f : Int32} (tx : TX B L t m) (hp : p ≤ L) (h : RM m L p f) (h39 : m.1 39 = 14) {post : OV → Prop} {y1 : Int32} (hit : ∀ k, k < 14 → MT B L p (kwR k) → PX9_value_b62 post y1 (nI k) m) (miss : (∀ k, k < 14 → ¬ MT B L p (kwR k)) → PX9_value_b62 post y1 14 m) : ∀ n j, j + n = 14 → (∀ i, i < j → ¬ MT B L p (kwR i)) → PX9_value_L37 post (n + 1) y1 (nI j) m
  | 0, j, hj, no => by
    have : j = 14 := by omega
    subst this
    unfold PX9_value_L37
    rw [h39]
    exact br_t (by decide) (miss (fun k hk y => no k hk y))
  | n + 1, j, hj, no => by
    unfold PX9_value_L37
    rw [h39]
    refine br_f (fr_nle (b := 14) (by omega) (by omega)) (mp_wordOf (by omega) (mp_stood tx (kwR_30 _ (by omega)) hp h ?_))
    by_cases y : MT B L p (kwR j)
    · rw [zb_t y]
      exact br_nf (by decide) (hit j (by omega) y)
    · rw [zb_f y]
      refine br_nt rfl ?_
      rw [nI_1]
      rintro _ rfl
      refine mp_words tx hp h h39 hit miss n (j + 1) (by omega) (fun i hi => ?_)
      rcases Nat.lt_or_ge i j with u | u
      · exact no i u
      · rw [show i = j by omega]
        exact y
theorem stepR_nm {B : Nat → Nat} {L p : Nat} (hp : p ≤ L) : stepR (nmV B L p) 0 (nmV B L p) ∧ ¬ nmV B L p ≤ -15 := by
  have h5 : dvS B p (dgn B L p) < 100000 := dv_5 (dg_run hp)
  have h0 : ¬ nmV B L p < 0 := nI_pos (n := dvS B p (dgn B L p)) (by omega)
  refine ⟨Or.inl ⟨rfl, rfl, h0⟩, fun y => h0 ?_⟩
  exact Int32.lt_of_le_of_lt y (by decide)
theorem cs_value {t m0 q r u : OV} {B : Nat → Nat} {L s p e k : Nat} (tx : TX B L t m0) (hs : s < 6) (he : e < 300) (hk : k ≤ 60) (c : CS L 0 p e k q r u) {post : OV → OV → OV → Prop} (hq : ∀ F' p' q' r' u', CS L F' p' (e + 1) (k + 1) q' r' u' → (F' = 0 → UF u u' ∧ PE e u u' ∧ k + 1 ≤ 60 ∧ ¬ u'.2.1 0 e ≤ -15 ∧ p ≤ p') → TR m0 L s p e k (u.2.1 0) F' p' (e + 1) (k + 1) (u'.2.1 0) IR AR PX9_value → post q' r' u') : PX4_readValue q r u t post := by
  have l4 := tx.1
  obtain ⟨hp, rd, ok, foc, g⟩ := c
  obtain ⟨qk, ue⟩ := g rfl
  have sp : sk B L p ≤ L := (fw_ok (isBl B) hp).2.1
  have hb : sk B L p < L → B (sk B L p) < 256 := fun c => (tx.2 _ c).1
  have pk : p ≤ sk B L p := (fw_ok (isBl B) hp).1
  unfold PX4_readValue
  refine cp_next tx hp rd (fun r1 rd1 => cp_isDigit (fun h48 h57 => ?_) (fun nd => ?_))
  · have dg := (dg_chr hb).mp ⟨h48, h57⟩
    have dn : ¬ dgn B L (sk B L p) = 0 := fun y => (dgn_0 sp).mp y dg
    rintro _ rfl
    rw [rd1.2.1]
    have goal : ∀ r2, RD r2 L (sk B L p) 0 → PX2_number r2 t ((0 : Int32)) ((99999 : Int32)) (fun r21 v_r20 => (PX3_put u r21 (fun v_u23 => PX4_readValue_b94 t post (nI (sk B L p)) q v_r20 v_u23))) := by
      intro r2 rd2
      refine cp_number tx sp rd2 (fun r3 rd3 => ?_)
      rw [sk_sk hp] at rd3 ⊢
      rw [fst_z, nm_dg sp] at rd3
      refine cp_put ue (by omega) ?_
      have np : sk B L p + dgn B L (sk B L p) ≤ L := by
        have := fw_ok (isDg B) sp
        unfold dgn
        omega
      have step : ∀ F' q' r', CS L F' (sk B L p + dgn B L (sk B L p)) (e + 1) (k + 1) q' r' (cpU u e (nmV B L (sk B L p))) → (F' = fst0 (dgK B L (sk B L p)) (cF k (sk B L p))) → post q' r' (cpU u e (nmV B L (sk B L p))) := by
        intro F' q' r' cs eF
        refine hq F' _ q' r' _ cs (fun z => ?_) ?_
        · rw [eF] at z
          obtain ⟨z1, z2⟩ := fst_0 z
          exact ⟨UF_cpU _ _ _, PE_cpU _ _ _, cF_0 hk (by omega) z2, by rw [cpU_at]; exact (stepR_nm sp).2, by omega⟩
        · intro m w pm hpm
          have txm := MC_tx tx w.1
          unfold PX9_value
          refine mp_blanks txm hp (MS_rm w) (fun m1 f1 r1 => ?_)
          rintro _ rfl
          have f1' : Fr [31, 32] [] [] [] m m1 := Fr_mono f1 (by decide) (by decide) (by decide) (by decide)
          have w1 := MS_mv w f1' r1 sp
          have txm1 := MC_tx tx w1.1
          refine mp_isDigit txm1 (by omega) r1 (fun _ => br_f (by decide) ?_) (fun y => absurd dg y)
          refine mp_digits txm1 sp r1 (fun m2 f2 r2 => ?_)
          rw [fst_z] at r2
          rw [r1.2.1]
          have w2 := MS_mv w1 f2 r2 np
          have fx2 : FX IR AR s m m2 := FX_trans (FX_31 f1' (by decide) (by decide)) (FX_31 f2 (by decide) (by decide))
          by_cases z : dgK B L (sk B L p) = 0
          · rw [z] at w2
            rw [z, fst_z] at eF
            refine mp_cnt_entry (X := fun m1 pm1 => PX9_entry m1 0 (nmV B L (sk B L p)) (fun m => pm1 m)) (p := sk B L p + dgn B L (sk B L p)) (n := 0) (x := nmV B L (sk B L p)) l4 hs he hk (by omega) (by omega) w2 (stepR_nm sp).1 (fun m3 pm3 e3 h3 => ?_) (fun m' f' w' => ?_)
            · exact h3 m3 (by rw [Nat.add_zero, ← e3, si_self])
            · rw [← eF] at w'
              exact hpm m' (FX_trans fx2 f') w'
          · rw [fst_n z] at eF
            refine mp_counted_no z w2.2.1 (fun m3 f3 e3 => ?_)
            refine mp_entry_no (by rw [e3]; exact z) (hpm m3 (FX_trans fx2 (FX_mono (FX_fr f3 (by decide) (by decide)) (by decide) (by decide))) ?_)
            rw [eF]
            exact MS_F _ _ _ _ (MC_fr w2.1 f3 (by decide) (by decide)) z e3 ⟨_, by omega, (f3.1 31 (by decide)).trans r2.2.1⟩
      have ok2 : Uok (cpU u e (nmV B L (sk B L p))) := Uok_cpU ok (by omega)
      unfold PX4_readValue_b94
      by_cases z : dgK B L (sk B L p) = 0
      · rw [z] at rd3
        refine cp_countAt hk qk rd3 (fun q' r' e2 rd4 => ?_)
        refine step _ q' r' ⟨np, rd4, ok2, FOk_fst (Or.inl rfl) (FOk_cF (by omega)), fun _ => ⟨e2, rfl⟩⟩ (by rw [z])
      · refine cp_countAt_no z rd3 (fun q' r' rd4 => ?_)
        exact step _ q' r' (CS_F z (FOk_dg l4 sp) np rd4 ok2) (by rw [fst_n z])
    refine cp_word tx (show (6:Nat) < 30 by decide) kwR_30 tblR sp rd1 (fun _ r2 rd2 => ?_) (fun j _ _ r2 rd2 => ?_)
    · rw [sk_sk hp] at rd2
      exact br_f (by decide) (goal r2 rd2)
    · rw [sk_sk hp] at rd2
      exact br_f (by decide) (goal r2 rd2)
  · have ndg : ¬ (sk B L p < L ∧ isDg B (sk B L p)) := fun y => nd ((dg_chr hb).mpr y)
    rintro _ rfl
    rw [rd1.2.1]
    -- the reference up to its words
    have ref : ∀ F' p' st', (∀ m (pm : OV → Prop), MS m0 L s 0 (sk B L p) e k (u.2.1 0) m → (∀ m', FX IR AR s m m' → MS m0 L s F' p' (e + 1) (k + 1) st' m' → pm m') → ∃ n, PX9_value_L37 (fun m => pm m) n (nI (sk B L p)) 0 m) → TR m0 L s p e k (u.2.1 0) F' p' (e + 1) (k + 1) st' IR AR PX9_value := by
      intro F' p' st' hw m w pm hpm
      have txm := MC_tx tx w.1
      unfold PX9_value
      refine mp_blanks txm hp (MS_rm w) (fun m1 f1 r1 => ?_)
      rintro _ rfl
      have f1' : Fr [31, 32] [] [] [] m m1 := Fr_mono f1 (by decide) (by decide) (by decide) (by decide)
      have w1 := MS_mv w f1' r1 sp
      refine mp_isDigit (MC_tx tx w1.1) (by omega) r1 (fun y => absurd y ndg) (fun _ => br_t rfl ?_)
      rw [r1.2.1]
      exact hw m1 pm w1 (fun m' f' w' => hpm m' (FX_trans (FX_31 f1' (by decide) (by decide)) f') w')
    refine cp_word tx (show (6:Nat) < 30 by decide) kwR_30 tblR sp rd1 (fun no r2 rd2 => ?_) (fun j hj yes r2 rd2 => ?_)
    · rw [sk_sk hp] at rd2 no
      refine br_t rfl (br_t rfl (cp_failAt (k := 0) rd2 (fun r3 rd3 => ?_)))
      rw [fst_z] at rd3
      have nz : ¬ flt (sk B L p) 0 = 0 := flt_ne (k := 0) (by omega) (by omega)
      unfold PX4_readValue_b94
      refine cp_countAt_no nz rd3 (fun q' r' rd4 => ?_)
      refine hq _ _ q' r' u (CS_F nz (FOk_f0 (by omega)) sp rd4 ok) (fun z => absurd z nz) (ref _ _ _ (fun m pm w hpm => ⟨15, ?_⟩))
      refine mp_words (MC_tx tx w.1) sp (MS_rm w) w.1.2.2.2 (fun k hk y => absurd y (no k hk)) (fun _ => ?_) 14 0 (by omega) (fun i hi => absurd hi (by omega))
      unfold PX9_value_b62
      refine br_nt w.1.2.2.2.symm (mp_fails (k := 0) (MS_rm w) (fun m3 f3 r3 => ?_))
      rw [fst_z] at r3
      have f3' : Fr [31, 32] [] [] [] m m3 := Fr_mono f3 (by decide) (by decide) (by decide) (by decide)
      exact hpm m3 (FX_31 f3' (by decide) (by decide)) (MS_F _ _ _ _ (MC_fr w.1 f3' (by decide) (by decide)) nz r3.2.2 ⟨_, by omega, r3.2.1⟩)
    · rw [sk_sk hp] at rd2 yes
      have jn : ¬ nI j = -1 := nI_n1 (by omega)
      refine br_t rfl (br_f jn (cp_put ue (by omega) ?_))
      have wz' := wz_le (B := B) sp
      refine cp_wordSize tx sp rd2 (cp_pass rd2 l4 wz' (fun r3 rd3 => ?_))
      unfold PX4_readValue_b94
      refine cp_countAt hk qk rd3 (fun q' r' e2 rd4 => ?_)
      rw [fst_z] at rd4
      have sr : stepR (-1 - nI j) 1 (nI j) := Or.inr (Or.inl ⟨rfl, j, hj, rfl, rfl⟩)
      refine hq _ _ q' r' (cpU u e (-1 - nI j)) ⟨wz', rd4, Uok_cpU ok (by omega), FOk_cF (by omega), fun _ => ⟨e2, rfl⟩⟩ (fun z => ⟨UF_cpU _ _ _, PE_cpU _ _ _, cF_0 hk (by omega) z, by rw [cpU_at]; exact (word_no j hj).1, by omega⟩) (ref _ _ _ (fun m pm w hpm => ⟨15, ?_⟩))
      have hitj : ∀ j', j' < 14 → MT B L (sk B L p) (kwR j') → j' = j := fun j' h1 h2 => kwR_ne j' h1 j hj (MT_one (kwR_30 j' h1) (kwR_30 j hj) h2 yes)
      refine mp_words (MC_tx tx w.1) sp (MS_rm w) w.1.2.2.2 (fun j' hj' y => ?_) (fun y => absurd yes (y j hj)) 14 0 (by omega) (fun i hi => absurd hi (by omega))
      have ej := hitj j' hj' y
      subst ej
      unfold PX9_value_b62
      refine br_nf (fun y => ?_) ?_
      · rw [w.1.2.2.2] at y
        have : j' = 14 := nI_inj (b := 14) (by omega) (by omega) y
        omega
      · refine mp_cnt_entry (X := fun m1 pm1 => PX9_wordOf (nI j') (fun r4 => PJ0_length_8abf5 r4 (fun r6 => ∀ x8 : Int32, x8 = m1.1 31 + r6 → ∀ v9 : OV, v9 = si m1 31 x8 → PX9_entry v9 1 (nI j') (fun v10 => pm1 v10)))) (p := sk B L p) (n := wz B L (sk B L p)) (x := -1 - nI j') l4 hs he hk (by omega) wz' w sr (fun m3 pm3 e3 h3 => ?_) (fun m' f' w' => hpm m' f' w')
        refine mp_wordOf hj' (cp_len (kwR_30 j' hj') ?_)
        rintro _ rfl _ rfl
        refine h3 _ ?_
        rw [e3, nI_add, yes.1]
