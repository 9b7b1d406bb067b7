/-! 97: reading a sum of a rule -/
def wt (x : Int32) : Nat := if x = 0 then 0 else 1
theorem wt_0 : wt 0 = 0 := rfl
theorem wt_1 {x : Int32} (h : ¬ x = 0) : wt x = 1 := if_neg h
def opK (x : Int32) : Int32 := if x = -15 then 2 else if x = -16 then 3 else if x = -17 then 13 else if x = -18 then 14 else 15
def okX (x : Int32) : Prop := x = 0 ∨ x = -15 ∨ x = -16 ∨ x = -17 ∨ x = -18 ∨ x = -19
theorem okX_op {x : Int32} (h : okX x) (n : ¬ x = 0) : (opK x, x) ∈ opT := by
  rcases h with h | rfl | rfl | rfl | rfl | rfl
  · exact absurd h n
  all_goals decide
theorem okX_ty {x : Int32} (h : okX x) (n : ¬ x = 0) (τ : List Bool) : ty1 x (false :: false :: τ) = some (false :: τ) := by
  rcases h with h | rfl | rfl | rfl | rfl | rfl
  · exact absurd h n
  all_goals rfl
def EN (x : Int32) (m : OV) (pm : OV → Prop) : Prop := if x = 0 then pm m else PX9_entry m (opK x) 0 (fun m' => pm m')
theorem EN_0 {m : OV} {pm : OV → Prop} (h : pm m) : EN 0 m pm := h
theorem EN_z : EN 0 = fun m pm => pm m := rfl
theorem EN_n {x : Int32} (h : ¬ x = 0) : EN x = fun m pm => PX9_entry m (opK x) 0 (fun m' => pm m') := by
  funext m pm
  exact if_neg h
theorem EN_no {x : Int32} {m : OV} {pm : OV → Prop} (nz : ¬ m.1 32 = 0) (h : pm m) : EN x m pm := by
  unfold EN
  by_cases c : x = 0
  · rw [if_pos c]; exact h
  · rw [if_neg c]; exact mp_entry_no nz h
def fal (n : Nat) (τ : List Bool) : List Bool := match n with
  | 0 => τ
  | n + 1 => false :: fal n τ
theorem fal_len : ∀ n τ, (fal n τ).length = n + τ.length
  | 0, τ => (Nat.zero_add _).symm
  | n + 1, τ => by
    show (fal n τ).length + 1 = n + 1 + τ.length
    rw [fal_len n τ]
    omega
theorem fal_add : ∀ a b τ, fal (a + b) τ = fal a (fal b τ)
  | 0, b, τ => by rw [Nat.zero_add]; rfl
  | a + 1, b, τ => by
    rw [show a + 1 + b = (a + b) + 1 by omega]
    show false :: fal (a + b) τ = false :: fal a (fal b τ)
    rw [fal_add a b τ]
theorem fal_c : ∀ a τ, fal a (false :: τ) = false :: fal a τ
  | 0, τ => rfl
  | a + 1, τ => by
    show false :: fal a (false :: τ) = false :: fal (a + 1) τ
    rw [fal_c a τ]
    rfl
/-- what of the rule's steps stays behind a piece -/
def KP (e : Nat) (u u' : OV) : Prop := UF u u' ∧ PE e u u'
theorem KP_refl (e : Nat) (u : OV) : KP e u u := ⟨UF_refl u, PE_refl e u⟩
theorem KP_trans {e e' : Nat} {a b c : OV} (h : e ≤ e') (x : KP e a b) (y : KP e' b c) : KP e a c := ⟨UF_trans x.1 y.1, PE_trans h x.2 y.2⟩
theorem MS_kp {m0 m : OV} {L s p e k : Nat} {F : Int32} {u u' : OV} (w : MS m0 L s F p e k (u.2.1 0) m) (h : PE e u u') : MS m0 L s F p e k (u'.2.1 0) m := MS_st w h
theorem mp_entry_c {m0 m u : OV} {L s p e k : Nat} {x K N : Int32} (hs : s < 6) (he : e < 300) (w : MS m0 L s 0 p e k (u.2.1 0) m) (sr : stepR x K N) {post : OV → Prop} (hq : ∀ m', FX IR AR s m m' → MS m0 L s 0 p (e + 1) k ((cpU u e x).2.1 0) m' → post m') : PX9_entry m K N post := mp_entry hs he w sr (fun m' f w' => hq m' (FX_mono f (by decide) (by decide)) w')
theorem cs_en {m0 q r u : OV} {L s p e k : Nat} {x : Int32} (ox : okX x) (hs : s < 6) (he : e + wt x < 300) (c : CS L 0 p e k q r u) {X : OV → Prop} (hq : ∀ u', CS L 0 p (e + wt x) k q r u' → KP e u u' → (∀ τ, TyU (u'.2.1 0) e (e + wt x) (false :: fal (wt x) τ) (false :: τ)) → (∀ m (pm : OV → Prop), MS m0 L s 0 p e k (u.2.1 0) m → (∀ m', FX IR AR s m m' → MS m0 L s 0 p (e + wt x) k (u'.2.1 0) m' → pm m') → EN x m pm) → X u') : (x = 0 → X u) ∧ (¬ x = 0 → PX3_put u x X) := by
  obtain ⟨hp, rd, ok, foc, g⟩ := id c
  obtain ⟨qk, ue⟩ := g rfl
  refine br_c (fun z => ?_) (fun z => ?_)
  · subst z
    exact hq u c (KP_refl e u) (fun τ => TyU_refl _ _ _) (fun m pm w h => h m FX_nil w)
  · have w1 := wt_1 z
    rw [w1] at hq he
    refine cp_put ue (by omega) (hq _ ⟨hp, rd, Uok_cpU ok (by omega), Or.inl rfl, fun _ => ⟨qk, rfl⟩⟩ ⟨UF_cpU _ _ _, PE_cpU _ _ _⟩ (fun τ => TyU_one ?_) (fun m pm w h => ?_))
    · rw [cpU_at]
      exact okX_ty ox z τ
    · unfold EN
      rw [if_neg z]
      exact mp_entry_c hs (by omega) w (Or.inr (Or.inr (Or.inr (okX_op ox z)))) h
noncomputable def oM (B : Nat → Nat) (L p : Nat) : Int32 := if chr B L p = 37 then -19 else if chr B L p = 42 then -17 else if chr B L p = 47 then -18 else 0
noncomputable def oA (B : Nat → Nat) (L p : Nat) : Int32 := if chr B L p = 43 then -15 else if chr B L p = 45 then -16 else 0
theorem okM (B : Nat → Nat) (L p : Nat) : okX (oM B L p) := by
  unfold oM
  by_cases a : chr B L p = 37
  · rw [if_pos a]; exact Or.inr (Or.inr (Or.inr (Or.inr (Or.inr rfl))))
  · rw [if_neg a]
    by_cases b : chr B L p = 42
    · rw [if_pos b]; exact Or.inr (Or.inr (Or.inr (Or.inl rfl)))
    · rw [if_neg b]
      by_cases c : chr B L p = 47
      · rw [if_pos c]; exact Or.inr (Or.inr (Or.inr (Or.inr (Or.inl rfl))))
      · rw [if_neg c]; exact Or.inl rfl
theorem okA (B : Nat → Nat) (L p : Nat) : okX (oA B L p) := by
  unfold oA
  by_cases a : chr B L p = 43
  · rw [if_pos a]; exact Or.inr (Or.inl rfl)
  · rw [if_neg a]
    by_cases b : chr B L p = 45
    · rw [if_pos b]; exact Or.inr (Or.inr (Or.inl rfl))
    · rw [if_neg b]; exact Or.inl rfl
theorem chr_lt {B : Nat → Nat} {L p : Nat} (h : ¬ chr B L p = -1) : p < L := by
  unfold chr at h
  by_cases c : p < L
  · exact c
  · rw [if_neg c] at h
    exact absurd rfl h
theorem oM_lt {B : Nat → Nat} {L p : Nat} (h : ¬ oM B L p = 0) : p < L := by
  refine chr_lt (B := B) (fun y => h ?_)
  unfold oM
  rw [y]
  rfl
theorem oA_lt {B : Nat → Nat} {L p : Nat} (h : ¬ oA B L p = 0) : p < L := by
  refine chr_lt (B := B) (fun y => h ?_)
  unfold oA
  rw [y]
  rfl
theorem cp_mul {B : Nat → Nat} {L p : Nat} {post : Int32 → Prop} (h : post (oM B L p)) : PX4_multiplier (chr B L p) post := by
  unfold PX4_multiplier
  unfold oM at h
  exact br_if (fun _ h => h) (fun _ => br_if (fun _ h => h) (fun _ => br_if (fun _ h => h) (fun _ h => h))) h
theorem cp_add {B : Nat → Nat} {L p : Nat} {post : Int32 → Prop} (h : post (oA B L p)) : PX4_adder (chr B L p) post := by
  unfold PX4_adder
  unfold oA at h
  exact br_if (fun _ h => h) (fun _ => br_if (fun _ h => h) (fun _ h => h)) h
theorem mp_L8 {t m : OV} {B : Nat → Nat} {L p n : Nat} (tx : TX B L t m) (hp : p ≤ L) (h : RM m L p 0) {post : OV → Prop} (h0 : oM B L p = 0 → post m) (h1 : ¬ oM B L p = 0 → PX9_term_b72 (PX9_term_L8 post n) post (opK (oM B L p)) m) : PX9_term_L8 post (n + 1) m := by
  have sg : ∀ {post : Int32 → Prop}, post (chr B L p) → PX9_sign m post := fun hq => mp_sign tx h (by omega) hq
  have b42 : ∀ x : Int32, ((chr B L p = 42 → x = 13) ∧ (¬ chr B L p = 42 → chr B L p = 47 → x = 14) ∧ (¬ chr B L p = 42 → ¬ chr B L p = 47 → x = 15)) → PX9_term_b72 (PX9_term_L8 post n) post x m → PX9_term_b42 (PX9_term_L8 post n) post m := by
    intro x hx g
    unfold PX9_term_b42
    refine sg (br_nc (fun a => sg (br_nc (fun b => ?_) (fun b => ?_))) (fun a => ?_))
    · rw [hx.2.2 a b] at g; exact g
    · rw [hx.2.1 a b] at g; exact g
    · rw [hx.1 a] at g; exact g
  unfold PX9_term_L8
  unfold oM at h0 h1
  refine br_nt h.2.2 (sg (br_c (fun a => ?_) (fun a => sg (br_c (fun b => ?_) (fun b => sg (br_nc (fun c => ?_) (fun c => ?_)))))))
  · rw [if_neg (by rw [a]; decide), if_pos a] at h1
    exact b42 _ ⟨fun _ => rfl, fun y => absurd a y, fun y => absurd a y⟩ (h1 (by decide))
  · rw [if_neg (by rw [b]; decide), if_neg a, if_pos b] at h1
    exact b42 _ ⟨fun y => absurd y a, fun _ _ => rfl, fun _ y => absurd b y⟩ (h1 (by decide))
  · rw [if_neg c, if_neg a, if_neg b] at h0
    exact h0 rfl
  · rw [if_pos c] at h1
    exact b42 _ ⟨fun y => absurd y a, fun _ y => absurd y b, fun _ _ => rfl⟩ (h1 (by decide))
theorem mp_L4 {t m : OV} {B : Nat → Nat} {L p n : Nat} (tx : TX B L t m) (hp : p ≤ L) (h : RM m L p 0) {post : OV → Prop} (h0 : oA B L p = 0 → post m) (h1 : ¬ oA B L p = 0 → PX9_sum_b43 (PX9_sum_L4 post n) post (opK (oA B L p)) m) : PX9_sum_L4 post (n + 1) m := by
  have sg : ∀ {post : Int32 → Prop}, post (chr B L p) → PX9_sign m post := fun hq => mp_sign tx h (by omega) hq
  unfold PX9_sum_L4
  unfold oA at h0 h1
  refine br_nt h.2.2 (sg (br_c (fun a => ?_) (fun a => sg (br_nc (fun b => ?_) (fun b => ?_)))))
  · rw [if_pos a] at h1
    unfold PX9_sum_b29
    exact sg (br_nt a (h1 (by decide)))
  · rw [if_neg a, if_neg b] at h0
    exact h0 rfl
  · rw [if_neg a, if_pos b] at h1
    unfold PX9_sum_b29
    exact sg (br_nf a (h1 (by decide)))
/-- blanks behind any end -/
theorem mp_blanks1 {t m : OV} {B : Nat → Nat} {L p : Nat} {f : Int32} (tx : TX B L t m) (hp : p ≤ L + 1) (h : RM m L p f) {post : OV → Prop} (hq : ∀ m' p', Fr [31] [] [] [] m m' → p' ≤ L + 1 → RM m' L p' f → post m') : PX9_blanks m post := by
  have l4 := tx.1
  rcases Nat.lt_or_ge L p with c | c
  · unfold PX9_blanks
    refine ⟨1, ?_⟩
    unfold PX9_blanks_L0
    refine mp_sign tx h hp (br_nf ?_ (hq m p Fr_refl hp h))
    unfold chr
    rw [if_neg (by omega)]
    decide
  · exact mp_blanks tx c h (fun m' f' r' => hq m' _ f' (by have : sk B L p ≤ L := (fw_ok (isBl B) c).2.1; omega) r')
