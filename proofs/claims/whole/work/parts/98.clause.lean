/-! 98: a clause of a rule -/
def AY : List Nat := [41, 42, 44, 45, 46, 47]
def FY (s i : Nat) (m m' : OV) : Prop := Fr IT AY [] [] m m' ∧ (∀ j, j < 300 * s → m'.2.1 41 j = m.2.1 41 j ∧ m'.2.1 42 j = m.2.1 42 j) ∧ ∀ j, j < 12 * s + i → m'.2.1 44 j = m.2.1 44 j ∧ m'.2.1 45 j = m.2.1 45 j ∧ m'.2.1 46 j = m.2.1 46 j
theorem FY_trans {s i : Nat} {a b c : OV} (x : FY s i a b) (y : FY s i b c) : FY s i a c := ⟨Fr_trans x.1 y.1, fun j hj => ⟨(y.2.1 j hj).1.trans (x.2.1 j hj).1, (y.2.1 j hj).2.trans (x.2.1 j hj).2⟩, fun j hj => ⟨(y.2.2 j hj).1.trans (x.2.2 j hj).1, (y.2.2 j hj).2.1.trans (x.2.2 j hj).2.1, (y.2.2 j hj).2.2.trans (x.2.2 j hj).2.2⟩⟩
theorem FY_X {s i : Nat} {m m' : OV} (f : FX IT AT s m m') : FY s i m m' := ⟨Fr_mono f.1 (by decide) (by decide) (fun _ h => h) (fun _ h => h), f.2, fun j _ => ⟨by rw [f.1.2.1 44 (by decide) (by decide)], by rw [f.1.2.1 45 (by decide) (by decide)], by rw [f.1.2.1 46 (by decide) (by decide)]⟩⟩
theorem FY_sa {s i x : Nat} {m : OV} {v : Int32} (hx : x = 44 ∨ x = 45 ∨ x = 46) : FY s i m (sa m x (upd (m.2.1 x) (12 * s + i) v)) := by
  have mem : x ∈ AY := by rcases hx with rfl | rfl | rfl <;> decide
  have n1 : x ≠ 1 := by rcases hx with rfl | rfl | rfl <;> decide
  have n41 : ¬ 41 = x := by rcases hx with rfl | rfl | rfl <;> decide
  have n42 : ¬ 42 = x := by rcases hx with rfl | rfl | rfl <;> decide
  have at' : ∀ y j, j < 12 * s + i → (sa m x (upd (m.2.1 x) (12 * s + i) v)).2.1 y j = m.2.1 y j := by
    intro y j hj
    by_cases c : y = x
    · subst c; rw [sa_at, upd_ne _ _ (by omega)]
    · rw [sa_ne _ _ c]
  exact ⟨Fr_sa mem n1 Fr_refl, fun j _ => ⟨by rw [sa_ne _ _ n41], by rw [sa_ne _ _ n42]⟩, fun j hj => ⟨at' 44 j hj, at' 45 j hj, at' 46 j hj⟩⟩
theorem MS_y {m0 m m' : OV} {L s p e k : Nat} {F : Int32} {st : Nat → Int32} (w : MS m0 L s F p e k st m) (f : Fr [36, 38] [44, 45, 46, 47] [] [] m m') : MS m0 L s F p e k st m' := by
  obtain ⟨mc, e32, ⟨q, h1, h2⟩, g⟩ := w
  refine ⟨MC_fr mc f (by decide) (by decide), (f.1 32 (by decide)).trans e32, ⟨q, h1, (f.1 31 (by decide)).trans h2⟩, fun z => ?_⟩
  obtain ⟨a, b, c, d, rel⟩ := g z
  refine ⟨a, (f.1 31 (by decide)).trans b, (f.1 35 (by decide)).trans c, (f.1 37 (by decide)).trans d, fun j hj => ?_⟩
  rw [f.2.1 41 (by decide) (by decide), f.2.1 42 (by decide) (by decide)]
  exact rel j hj
theorem MS_sa {m0 m : OV} {L s p e k x : Nat} {F : Int32} {st g : Nat → Int32} (hx : x = 44 ∨ x = 45 ∨ x = 46) (w : MS m0 L s F p e k st m) : MS m0 L s F p e k st (sa m x g) := by
  refine MS_y w (Fr_sa ?_ ?_ Fr_refl)
  · rcases hx with rfl | rfl | rfl <;> decide
  · rcases hx with rfl | rfl | rfl <;> decide
def PXclause (t : OV) (i : Int32) (post : OV → OV → OV → Prop) (v_q v_r v_u : OV) : Prop := PX4_beginClause v_q v_r v_u t i (fun v_r3 => (PX4_readSum v_q v_r3 v_u t (fun v_q5 v_r6 v_u7 => (PX3_beginTest v_u7 (fun v_u9 => (PX2_takeWord v_r6 t 1 (fun r12 v_r11 => ((r12 = ((0 : Int32)) → post v_q5 v_r11 v_u9) ∧ (¬ r12 = ((0 : Int32)) → (PX4_readTest v_q5 v_r11 v_u9 t ((0 : Int32)) (fun v_q15 v_r16 v_u17 => post v_q15 v_r16 v_u17)))))))))))
theorem cp_begT {u : OV} {e i : Nat} (h : u.1 1 = nI e) (h4 : u.1 4 = nI i) (hi : i < 12) {post : OV → Prop} (hq : post (sa u 3 (upd (u.2.1 3) i (nI e)))) : PX3_beginTest u post := by
  unfold PX3_beginTest
  rw [h4, h]
  refine br_f (fr_nle (b := 12) hi (by omega)) ?_
  rintro _ rfl
  refine ⟨vp_in_q hi (by omega), ?_⟩
  rw [nI_31 (show i < 1000 by omega)]
  rintro _ rfl
  exact hq
theorem cp_begT_ok {u : OV} (ok : Uok u) {post : OV → Prop} (hq : ∀ u', Uok u' → post u') : PX3_beginTest u post := by
  obtain ⟨n, c, hn, hc, e1, e4, e2⟩ := id ok
  rcases Nat.lt_or_ge c 12 with h | h
  · exact cp_begT e1 e4 h (hq _ ⟨n, c, hn, hc, e1, e4, e2⟩)
  · unfold PX3_beginTest
    rw [e4]
    exact br_t (fr_le (a := 12) h (by omega)) (hq u ok)
theorem cp_begC {q r u t m0 : OV} {B : Nat → Nat} {L p i : Nat} (tx : TX B L t m0) (hi : i ≤ 12) (hp : p ≤ L) (rd : RD r L p 0) {post : OV → Prop} (h0 : ¬ MT B L (sk B L p) 2 → ∀ r', RD r' L (sk B L p) (flt (sk B L p) 0) → post r') (h1 : MT B L (sk B L p) 2 → i = 12 → ∀ r', RD r' L (sk B L p) (flt (sk B L p) 4) → post r') (h2 : MT B L (sk B L p) 2 → i < 12 → sk B L p + 4 ≤ L → ∀ r', RD r' L (sk B L p + 4) 0 → post r') : PX4_beginClause q r u t (nI i) post := by
  have sp : sk B L p ≤ L := (fw_ok (isBl B) hp).2.1
  have ss := sk_sk (B := B) hp
  have l4 : slen 2 = 4 := s_lens.2.2.2.2.2.2.2.1
  unfold PX4_beginClause
  refine cp_word1 tx (s := 2) (by omega) (by omega) hp rd (fun r1 rd1 => ⟨fun y => br_nf (by decide) ?_, fun y => br_nt rfl ?_⟩)
  · rcases Nat.lt_or_ge i 12 with c | c
    · refine br_t (nI_lt (b := 12) c (by omega)) (cp_takeWord tx (s := 2) (by omega) (by omega) sp rd1 (fun _ r2 rd2 le => ?_) (fun z => absurd (by rw [ss]; exact y) z))
      rw [ss, l4] at rd2 le
      exact h2 y c le r2 rd2
    · have e12 : i = 12 := by omega
      refine br_f (by rw [e12]; decide) ?_
      rw [rd1.2.1]
      refine cp_failAt (k := nI 4) rd1 (fun r2 rd2 => ?_)
      rw [fst_z] at rd2
      exact h1 y e12 r2 rd2
  · rw [rd1.2.1]
    refine cp_failAt (k := 0) rd1 (fun r2 rd2 => ?_)
    rw [fst_z] at rd2
    exact h0 y r2 rd2
theorem cs_clause_fault {t m0 q r u : OV} {B : Nat → Nat} {L p : Nat} {F : Int32} (tx : TX B L t m0) (nz : ¬ F = 0) (hp : p ≤ L) (rd : RD r L p F) (ok : Uok u) {post : OV → OV → OV → Prop} (hq : ∀ p' q' r' u', p' ≤ L → RD r' L p' F → Uok u' → post q' r' u') : PX3_beginTest u (fun v_u9 => (PX2_takeWord r t 1 (fun r12 v_r11 => ((r12 = ((0 : Int32)) → post q v_r11 v_u9) ∧ (¬ r12 = ((0 : Int32)) → (PX4_readTest q v_r11 v_u9 t ((0 : Int32)) (fun v_q15 v_r16 v_u17 => post v_q15 v_r16 v_u17))))))) := by
  have sp : sk B L p ≤ L := (fw_ok (isBl B) hp).2.1
  refine cp_begT_ok ok (fun u2 ok2 => cp_takeWord tx (s := 1) (by omega) (by omega) hp rd (fun _ r2 rd2 le => br_f (by decide) ?_) (fun _ r2 rd2 => br_t rfl (hq _ q r2 u2 sp rd2 ok2)))
  have g : PX4_readTest_g (RX4_readTest 29).1 (RX4_readTest 29).2 q r2 u2 t 0 (fun v_q15 v_r16 v_u17 => post v_q15 v_r16 v_u17) := by
    unfold PX4_readTest_g
    refine ⟨1, ?_⟩
    unfold PX4_readTest_g_L7
    exact br_f (by decide) (br_nf (by rw [rd2.2.2]; exact nz) (hq _ q r2 u2 le rd2 ok2))
  exact g
/-- what a clause leaves of the rule -/
def ClO (L p e k i p' e' k' b : Nat) (u u' : OV) : Prop := i < 12 ∧ u'.1 4 = u.1 4 ∧ u'.2.1 2 = u.2.1 2 ∧ u'.2.1 3 = upd (u.2.1 3) i (nI b) ∧ PE e u u' ∧ e ≤ b ∧ b ≤ e' ∧ k ≤ k' ∧ k' ≤ 60 ∧ p ≤ p' ∧ (∃ G', e' ≤ 2 * k' + 8 * G' ∧ 3 * G' ≤ k') ∧ TyU (u'.2.1 0) e b [] [false] ∧ (b < e' → TyU (u'.2.1 0) b e' [] [true])
def TC (m0 : OV) (L s p e k i : Nat) (st : Nat → Int32) (F' : Int32) (p' e' k' b : Nat) (st' : Nat → Int32) : Prop := ∀ m (pm : OV → Prop), MS m0 L s 0 p e k st m → m.1 36 = 0 → (∀ m', FY s i m m' → MS m0 L s F' p' e' k' st' m' → (F' = 0 → m'.1 36 = 0 ∧ m'.2.1 44 (12 * s + i) = nI e ∧ m'.2.1 45 (12 * s + i) = nI b ∧ m'.2.1 46 (12 * s + i) = nI e') → pm m') → PX9_ruleClause m (nI i) pm
