/-! 63: the reference's copying: rows to and from its past and its images -/
theorem Fr_row {I A C L : List Nat} {m m' : OV} {k i : Nat} {x : Int32} (hk : k ∈ A) (h1 : k = 1 → i ∈ C) (h : Fr I A C L m m') : Fr I A C L m (sa m' k (upd (m'.2.1 k) i x)) := by
  by_cases c : k = 1
  · subst c
    exact Fr_sc (h1 rfl) h
  · exact Fr_sa hk c h
theorem mp_carryF {m : OV} {gk gn a : Nat} (h66 : m.1 66 = 0) (h65 : m.1 65 = nI a) (ha : a + gn ≤ 4750) (hk : gk ≠ 63) {post : OV → Prop} (hp : ∀ m', Fr [65] [63] [] [] m m' → m'.1 65 = nI (a + gn) → (∀ j, j < gn → m'.2.1 63 (a + j) = m.2.1 gk j) → (∀ j, j < a ∨ a + gn ≤ j → m'.2.1 63 j = m.2.1 63 j) → post m') : PX9_carryRow m gk gn post := by
  unfold PX9_carryRow
  refine fr_rel (fun n i m1 => PX9_carryRow_L2 gk gn post n (nI i) m1) (fun i m1 => Fr [65] [63] [] [] m m1 ∧ m1.1 65 = nI (a + i) ∧ (∀ j, j < i → m1.2.1 63 (a + j) = m.2.1 gk j) ∧ (∀ j, j < a ∨ a + i ≤ j → m1.2.1 63 j = m.2.1 63 j)) gn m ⟨Fr_refl, h65, fun j hj => absurd hj (Nat.not_lt_zero j), fun _ _ => rfl⟩ ?_ ?_
  · rintro n m1 ⟨f, p, c, o⟩
    unfold PX9_carryRow_L2
    exact br_t (Int32.le_refl _) (hp m1 f p c o)
  · rintro n i m1 hi ⟨f, p, c, o⟩ next
    have g66 : m1.1 66 = 0 := (f.1 66 (by decide)).trans h66
    have ggk : m1.2.1 gk = m.2.1 gk := by
      by_cases e : gk = 1
      · rw [e]
        exact funext (fun j => f.2.2.1 j (by simp))
      · exact f.2.1 gk (by simp [hk]) e
    unfold PX9_carryRow_L2 PX9_carryRow_b42
    rw [p, ggk, nI_clamp (show i < 2 ^ 31 by omega), nI_clamp (show a + i < 2 ^ 31 by omega)]
    refine br_f (nI_ge hi (by omega)) (br_t g66 ⟨vp_in_nI hi (by omega), ?_⟩)
    rintro _ rfl
    refine ⟨vp_in_nI (by omega) (by omega), ?_⟩
    rintro _ rfl
    rw [show (sa m1 63 (upd (m1.2.1 63) (a + i) (m.2.1 gk i))).1 65 = nI (a + i) from p, nI_1]
    rintro _ rfl _ rfl _ rfl
    rw [nI_1]
    refine next _ ⟨Fr_si (by decide) (Fr_sa (by decide) (by decide) f), rfl, fun j hj => ?_, fun j hj => ?_⟩
    · show upd (m1.2.1 63) (a + i) (m.2.1 gk i) (a + j) = m.2.1 gk j
      by_cases e : j = i
      · rw [e, upd_eq]
      · rw [upd_ne _ _ (by omega)]
        exact c j (by omega)
    · show upd (m1.2.1 63) (a + i) (m.2.1 gk i) j = m.2.1 63 j
      rw [upd_ne _ _ (by omega)]
      exact o j (by omega)
theorem mp_carryB {m : OV} {gk gn a : Nat} {C : List Nat} (h66 : m.1 66 = 1) (h65 : m.1 65 = nI a) (ha : a + gn ≤ 4750) (hk : gk ≠ 63) (hC : gk = 1 → ∀ j, j < gn → j ∈ C) {post : OV → Prop} (hp : ∀ m', Fr [65] [gk] C [] m m' → m'.1 65 = nI (a + gn) → (∀ j, j < gn → m'.2.1 gk j = m.2.1 63 (a + j)) → post m') : PX9_carryRow m gk gn post := by
  unfold PX9_carryRow
  refine fr_rel (fun n i m1 => PX9_carryRow_L2 gk gn post n (nI i) m1) (fun i m1 => Fr [65] [gk] C [] m m1 ∧ m1.1 65 = nI (a + i) ∧ (∀ j, j < i → m1.2.1 gk j = m.2.1 63 (a + j))) gn m ⟨Fr_refl, h65, fun j hj => absurd hj (Nat.not_lt_zero j)⟩ ?_ ?_
  · rintro n m1 ⟨f, p, c⟩
    unfold PX9_carryRow_L2
    exact br_t (Int32.le_refl _) (hp m1 f p c)
  · rintro n i m1 hi ⟨f, p, c⟩ next
    have g66 : m1.1 66 = 1 := (f.1 66 (by decide)).trans h66
    have g63 : m1.2.1 63 = m.2.1 63 := f.2.1 63 (by simp [Ne.symm hk]) (by decide)
    unfold PX9_carryRow_L2 PX9_carryRow_b42
    rw [p, g63, nI_clamp (show i < 2 ^ 31 by omega), nI_clamp (show a + i < 2 ^ 31 by omega)]
    refine br_f (nI_ge hi (by omega)) (br_f (by rw [g66]; decide) ⟨vp_in_nI (by omega) (by omega), ?_⟩)
    rintro _ rfl
    refine ⟨vp_in_nI hi (by omega), ?_⟩
    rintro _ rfl
    rw [show (sa m1 gk (upd (m1.2.1 gk) i (m.2.1 63 (a + i)))).1 65 = nI (a + i) from p, nI_1]
    rintro _ rfl _ rfl _ rfl
    rw [nI_1]
    refine next _ ⟨Fr_si (by decide) (Fr_row (by simp) (fun e => hC e i hi) f), rfl, fun j hj => ?_⟩
    show (sa m1 gk (upd (m1.2.1 gk) i (m.2.1 63 (a + i)))).2.1 gk j = m.2.1 63 (a + j)
    rw [sa_at]
    by_cases e : j = i
    · rw [e, upd_eq]
    · rw [upd_ne _ _ e]
      exact c j (by omega)
/-! one number to or from the past -/
theorem mp_moveF {m : OV} {a : Nat} {x : Int32} (h59 : m.1 59 = 0) (h58 : m.1 58 = nI a) (ha : a < 700) {post : Int32 → OV → Prop} (hp : ∀ m', Fr [58] [55] [] [] m m' → m'.1 58 = nI (a + 1) → m'.2.1 55 = upd (m.2.1 55) a x → post x m') : PX9_moves m x post := by
  unfold PX9_moves PX9_moves_b20
  refine br_t h59 ?_
  rw [h58, nI_31 (show a < 1000 by omega)]
  refine ⟨vp_in_q ha (by omega), ?_⟩
  rintro _ rfl
  rw [show (sa m 55 (upd (m.2.1 55) a x)).1 58 = nI a from h58, nI_1]
  rintro _ rfl _ rfl
  exact hp _ (Fr_si (by decide) (Fr_sa (by decide) (by decide) Fr_refl)) rfl rfl
theorem mp_moveB {m : OV} {a : Nat} {x : Int32} (h59 : m.1 59 = 1) (h58 : m.1 58 = nI a) (ha : a < 700) {post : Int32 → OV → Prop} (hp : ∀ m', Fr [58] [] [] [] m m' → m'.1 58 = nI (a + 1) → post (m.2.1 55 a) m') : PX9_moves m x post := by
  unfold PX9_moves PX9_moves_b20
  refine br_f (by rw [h59]; decide) ?_
  rw [h58, nI_31 (show a < 1000 by omega)]
  refine ⟨vp_in_q ha (by omega), vp_in_q ha (by omega), ?_⟩
  rintro _ rfl
  rw [show (sa m 55 (upd (m.2.1 55) a (m.2.1 55 a))).1 58 = nI a from h58, nI_1]
  rintro _ rfl _ rfl
  have e : upd (m.2.1 55) a (m.2.1 55 a) = m.2.1 55 := funext (fun j => by
    by_cases c : j = a
    · rw [c, upd_eq]
    · rw [upd_ne _ _ c])
  rw [e, sa_self]
  exact hp _ (Fr_si (by decide) Fr_refl) rfl
theorem upd_same (f : Nat → Int32) (a : Nat) : upd f a (f a) = f := funext (fun j => by
  by_cases c : j = a
  · rw [c, upd_eq]
  · rw [upd_ne _ _ c])
theorem mp_moverF {m : OV} {gk gn a : Nat} (h59 : m.1 59 = 0) (h58 : m.1 58 = nI a) (ha : a + gn ≤ 700) (hk : gk ≠ 55) {post : OV → Prop} (hp : ∀ m', Fr [58] [55] [] [] m m' → m'.1 58 = nI (a + gn) → (∀ j, j < gn → m'.2.1 55 (a + j) = m.2.1 gk j) → (∀ j, j < a ∨ a + gn ≤ j → m'.2.1 55 j = m.2.1 55 j) → post m') : PX9_movesRow m gk gn post := by
  unfold PX9_movesRow
  refine fr_rel (fun n i m1 => PX9_movesRow_L2 gk gn post n (nI i) m1) (fun i m1 => Fr [58] [55] [] [] m m1 ∧ m1.1 58 = nI (a + i) ∧ (∀ j, j < i → m1.2.1 55 (a + j) = m.2.1 gk j) ∧ (∀ j, j < a ∨ a + i ≤ j → m1.2.1 55 j = m.2.1 55 j)) gn m ⟨Fr_refl, h58, fun j hj => absurd hj (Nat.not_lt_zero j), fun _ _ => rfl⟩ ?_ ?_
  · rintro n m1 ⟨f, p, c, o⟩
    unfold PX9_movesRow_L2
    exact br_t (Int32.le_refl _) (hp m1 f p c o)
  · rintro n i m1 hi ⟨f, p, c, o⟩ next
    have g59 : m1.1 59 = 0 := (f.1 59 (by decide)).trans h59
    have ggk : m1.2.1 gk = m.2.1 gk := by
      by_cases e : gk = 1
      · rw [e]
        exact funext (fun j => f.2.2.1 j (by simp))
      · exact f.2.1 gk (by simp [hk]) e
    unfold PX9_movesRow_L2
    rw [ggk, nI_clamp (show i < 2 ^ 31 by omega)]
    refine br_f (nI_ge hi (by omega)) ⟨vp_in_nI hi (by omega), mp_moveF g59 p (by omega) (fun m2 f2 p2 c2 => ⟨vp_in_nI hi (by omega), ?_⟩)⟩
    have hgk : m2.2.1 gk = m.2.1 gk := by
      by_cases e : gk = 1
      · rw [e] at ggk ⊢
        rw [← ggk]
        exact funext (fun j => f2.2.2.1 j (by simp))
      · rw [← ggk]
        exact f2.2.1 gk (by simp [hk]) e
    rw [hgk, upd_same, ← hgk, sa_self]
    rintro _ rfl _ rfl
    rw [nI_1]
    refine next _ ⟨Fr_trans f f2, p2, fun j hj => ?_, fun j hj => ?_⟩
    · rw [c2]
      by_cases e : j = i
      · rw [e, upd_eq]
      · rw [upd_ne _ _ (by omega)]
        exact c j (by omega)
    · rw [c2]
      rw [upd_ne _ _ (by omega)]
      exact o j (by omega)
theorem mp_moverB {m : OV} {gk gn a : Nat} (h59 : m.1 59 = 1) (h58 : m.1 58 = nI a) (ha : a + gn ≤ 700) (hk : gk ≠ 55) (h1 : gk ≠ 1) {post : OV → Prop} (hp : ∀ m', Fr [58] [gk] [] [] m m' → m'.1 58 = nI (a + gn) → (∀ j, j < gn → m'.2.1 gk j = m.2.1 55 (a + j)) → post m') : PX9_movesRow m gk gn post := by
  unfold PX9_movesRow
  refine fr_rel (fun n i m1 => PX9_movesRow_L2 gk gn post n (nI i) m1) (fun i m1 => Fr [58] [gk] [] [] m m1 ∧ m1.1 58 = nI (a + i) ∧ (∀ j, j < i → m1.2.1 gk j = m.2.1 55 (a + j))) gn m ⟨Fr_refl, h58, fun j hj => absurd hj (Nat.not_lt_zero j)⟩ ?_ ?_
  · rintro n m1 ⟨f, p, c⟩
    unfold PX9_movesRow_L2
    exact br_t (Int32.le_refl _) (hp m1 f p c)
  · rintro n i m1 hi ⟨f, p, c⟩ next
    have g59 : m1.1 59 = 1 := (f.1 59 (by decide)).trans h59
    have g55 : m1.2.1 55 = m.2.1 55 := f.2.1 55 (by simp [Ne.symm hk]) (by decide)
    unfold PX9_movesRow_L2
    rw [nI_clamp (show i < 2 ^ 31 by omega)]
    refine br_f (nI_ge hi (by omega)) ⟨vp_in_nI hi (by omega), mp_moveB g59 p (by omega) (fun m2 f2 p2 => ⟨vp_in_nI hi (by omega), ?_⟩)⟩
    rw [g55]
    rintro _ rfl _ rfl
    rw [nI_1]
    refine next _ ⟨Fr_sa (by simp) h1 (Fr_trans f (Fr_mono f2 (by decide) (by simp) (by decide) (by decide))), p2, fun j hj => ?_⟩
    rw [sa_at]
    by_cases e : j = i
    · rw [e, upd_eq]
    · rw [upd_ne _ _ e, f2.2.1 gk (by simp) h1]
      exact c j (by omega)
/-- (where in the row, array, first entry, how many): row's cells hold the array's entries -/
def Cp (B base : Nat) (m0 m : OV) (L : List (Nat × Nat × Nat × Nat)) : Prop := ∀ p ∈ L, ∀ j, j < p.2.2.2 → m.2.1 B (base + p.1 + j) = m0.2.1 p.2.1 (p.2.2.1 + j)
/-- the entries hold the row's cells -/
def Ld (B base : Nat) (m0 m : OV) (L : List (Nat × Nat × Nat × Nat)) : Prop := ∀ p ∈ L, ∀ j, j < p.2.2.2 → m.2.1 p.2.1 (p.2.2.1 + j) = m0.2.1 B (base + p.1 + j)
def KF (B pF dF : Nat) (I A : List Nat) (base : Nat) (m0 : OV) (L : List (Nat × Nat × Nat × Nat)) (b : Nat) (m : OV) : Prop := Fr I A [] [] m0 m ∧ m.1 dF = 0 ∧ m.1 pF = nI (base + b) ∧ Cp B base m0 m L ∧ (∀ p ∈ L, p.1 + p.2.2.2 ≤ b) ∧ ∀ j, j < base ∨ base + b ≤ j → m.2.1 B j = m0.2.1 B j
def KB (B pF dF : Nat) (I A C : List Nat) (base : Nat) (m0 : OV) (L : List (Nat × Nat × Nat × Nat)) (b : Nat) (m : OV) : Prop := Fr I A C [] m0 m ∧ m.1 dF = 1 ∧ m.1 pF = nI (base + b) ∧ Ld B base m0 m L ∧ m.2.1 B = m0.2.1 B
theorem KF_step {B pF dF : Nat} {I A : List Nat} {base : Nat} {m0 : OV} {L : List (Nat × Nat × Nat × Nat)} {b : Nat} {m m' : OV} {gk i0 n : Nat} (k : KF B pF dF I A base m0 L b m) (hI : pF ∈ I) (hA : B ∈ A) (hd : dF ≠ pF) (hg : ∀ j, j < n → m.2.1 gk (i0 + j) = m0.2.1 gk (i0 + j)) (f : Fr [pF] [B] [] [] m m') (p : m'.1 pF = nI (base + b + n)) (c : ∀ j, j < n → m'.2.1 B (base + b + j) = m.2.1 gk (i0 + j)) (o : ∀ j, j < base + b ∨ base + b + n ≤ j → m'.2.1 B j = m.2.1 B j) : KF B pF dF I A base m0 (L ++ [(b, gk, i0, n)]) (b + n) m' := by
  obtain ⟨k1, k2, k3, k4, k5, k6⟩ := k
  refine ⟨Fr_trans k1 (Fr_mono f (by intro x hx; rw [List.mem_singleton.mp hx]; exact hI) (by intro x hx; rw [List.mem_singleton.mp hx]; exact hA) (by simp) (by simp)), (f.1 dF (by simp [hd])).trans k2, by rw [p, Nat.add_assoc], ?_, ?_, ?_⟩
  · intro q hq j hj
    rcases List.mem_append.mp hq with h | h
    · have := k5 q h
      rw [o _ (Or.inl (by omega))]
      exact k4 q h j hj
    · rw [List.mem_singleton.mp h] at hj ⊢
      rw [c j hj, hg j hj]
  · intro q hq
    rcases List.mem_append.mp hq with h | h
    · have := k5 q h
      omega
    · rw [List.mem_singleton.mp h]
      exact Nat.le_refl _
  · intro j hj
    rw [o j (by omega)]
    exact k6 j (by omega)
theorem KB_step {B pF dF : Nat} {I A C : List Nat} {base : Nat} {m0 : OV} {L : List (Nat × Nat × Nat × Nat)} {b : Nat} {m m' : OV} {gk i0 n : Nat} {C' : List Nat} (k : KB B pF dF I A C base m0 L b m) (hI : pF ∈ I) (hA : gk ∈ A) (hC : ∀ j, j ∈ C' → j ∈ C) (hd : dF ≠ pF) (hB : B ≠ gk) (hB1 : B ≠ 1) (hL : ∀ p ∈ L, (p.2.1 ≠ 1 → p.2.1 ≠ gk) ∧ (p.2.1 = 1 → ∀ j, j < p.2.2.2 → p.2.2.1 + j ∉ C')) (f : Fr [pF] [gk] C' [] m m') (p : m'.1 pF = nI (base + b + n)) (c : ∀ j, j < n → m'.2.1 gk (i0 + j) = m.2.1 B (base + b + j)) : KB B pF dF I A C base m0 (L ++ [(b, gk, i0, n)]) (b + n) m' := by
  obtain ⟨k1, k2, k3, k4, k5⟩ := k
  have eB : m'.2.1 B = m.2.1 B := f.2.1 B (by simp [hB]) hB1
  refine ⟨Fr_trans k1 (Fr_mono f (by intro x hx; rw [List.mem_singleton.mp hx]; exact hI) (by intro x hx; rw [List.mem_singleton.mp hx]; exact hA) hC (by simp)), (f.1 dF (by simp [hd])).trans k2, by rw [p, Nat.add_assoc], ?_, by rw [eB, k5]⟩
  intro q hq j hj
  rcases List.mem_append.mp hq with h | h
  · rw [← k4 q h j hj]
    by_cases e1 : q.2.1 = 1
    · rw [e1]
      exact f.2.2.1 _ ((hL q h).2 e1 j hj)
    · rw [f.2.1 q.2.1 (by simp [(hL q h).1 e1]) e1]
  · rw [List.mem_singleton.mp h] at hj ⊢
    rw [c j hj, k5]
