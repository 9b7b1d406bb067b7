/-! 87: numbers -/
theorem flt_nI (w k : Nat) : flt w (nI k) = nI (1 + 8 * w + k) := by
  unfold flt
  rw [show (8 : Int32) * nI w = nI (8 * w) from nI_mul 8 w, show (1 : Int32) + nI (8 * w) = nI (1 + 8 * w) from nI_add 1 (8 * w), nI_add]
theorem flt_ne {w k : Nat} (hw : w ≤ 400) (hk : k < 8) : ¬ flt w (nI k) = 0 := by
  rw [flt_nI]
  exact nI_ne0 (by omega) (by omega)
/-- how many digits stand at p -/
noncomputable def dgn (B : Nat → Nat) (L p : Nat) : Nat := fw (isDg B) L p - p
def dvS (B : Nat → Nat) (p k : Nat) : Nat := itn (fun j v => if j < 5 then v * 10 + (B (p + j) - 48) else v) k 0
theorem dv_le {B : Nat → Nat} {p : Nat} : ∀ k, (∀ j, j < k → isDg B (p + j)) → dvS B p k < 10 ^ (min k 5)
  | 0, _ => by show 0 < 10 ^ (min 0 5); decide
  | k + 1, h => by
    have ih := dv_le k (fun j hj => h j (by omega))
    have hk : 48 ≤ B (p + k) ∧ B (p + k) ≤ 57 := h k (by omega)
    show (if k < 5 then dvS B p k * 10 + (B (p + k) - 48) else dvS B p k) < 10 ^ (min (k + 1) 5)
    by_cases c : k < 5
    · rw [if_pos c, show min (k + 1) 5 = min k 5 + 1 by omega, Nat.pow_succ]
      omega
    · rw [if_neg c, show min (k + 1) 5 = min k 5 by omega]
      exact ih
theorem dv_5 {B : Nat → Nat} {p k : Nat} (h : ∀ j, j < k → isDg B (p + j)) : dvS B p k < 100000 := by
  have := dv_le k h
  have h2 : 10 ^ (min k 5) ≤ 10 ^ 5 := Nat.pow_le_pow_right (by omega) (by omega)
  omega
noncomputable def nmV (B : Nat → Nat) (L p : Nat) : Int32 := nI (dvS B p (dgn B L p))
/-- the fault of the number at p; 0: none -/
noncomputable def nmK (B : Nat → Nat) (L p : Nat) (lo hi : Int32) : Int32 := if dgn B L p = 0 then flt p 0 else if 5 < dgn B L p ∨ nmV B L p < lo ∨ hi < nmV B L p then flt p 1 else 0
theorem cp_isDigit {x : Int32} {post : Int32 → Prop} (h1 : 48 ≤ x → x ≤ 57 → post 1) (h0 : ¬ (48 ≤ x ∧ x ≤ 57) → post 0) : PX2_isDigit x post := by
  unfold PX2_isDigit
  exact br_c (fun g => h0 (fun y => absurd g (Int32.not_lt.mpr y.1))) (fun g => br_c (fun g2 => h0 (fun y => absurd g2 (Int32.not_lt.mpr y.2))) (fun g2 => h1 (Int32.not_lt.mp g) (Int32.not_lt.mp g2)))
theorem dg_chr {B : Nat → Nat} {L p : Nat} (hb : p < L → B p < 256) : (48 ≤ chr B L p ∧ chr B L p ≤ 57) ↔ (p < L ∧ isDg B p) := by
  unfold chr isDg
  by_cases c : p < L
  · rw [if_pos c]
    have := hb c
    rw [show (48 : Int32) = nI 48 from rfl, show (57 : Int32) = nI 57 from rfl, nI_leI (by omega) (by omega), nI_leI (by omega) (by omega)]
    exact ⟨fun y => ⟨c, y⟩, fun y => y.2⟩
  · rw [if_neg c]
    exact ⟨fun y => absurd y.1 (by decide), fun y => absurd y.1 c⟩
theorem dgn_0 {B : Nat → Nat} {L p : Nat} (hp : p ≤ L) : dgn B L p = 0 ↔ ¬ (p < L ∧ isDg B p) := by
  obtain ⟨a, b, c, d⟩ := fw_ok (isDg B) hp
  unfold dgn
  constructor
  · rintro h ⟨x, y⟩
    have e : fw (isDg B) L p = p := by omega
    rw [e] at d
    exact d x y
  · intro h
    rw [fw_self hp (fun x y => h ⟨x, y⟩)]
    omega
theorem dg_run {B : Nat → Nat} {L p : Nat} (hp : p ≤ L) : ∀ j, j < dgn B L p → isDg B (p + j) := by
  obtain ⟨a, b, c, d⟩ := fw_ok (isDg B) hp
  intro j hj
  unfold dgn at hj
  exact c (p + j) (by omega) (by omega)
theorem cp_number {r t m : OV} {B : Nat → Nat} {L p : Nat} {f lo hi : Int32} (tx : TX B L t m) (hp : p ≤ L) (h : RD r L p f) {post : Int32 → OV → Prop} (hq : ∀ r', RD r' L (sk B L p + dgn B L (sk B L p)) (fst0 f (nmK B L (sk B L p) lo hi)) → post (nmV B L (sk B L p)) r') : PX2_number r t lo hi post := by
  have l4 := tx.1
  unfold PX2_number
  refine cp_next tx hp h (fun r1 hr1 => ?_)
  have sp : sk B L p ≤ L := (fw_ok (isBl B) hp).2.1
  generalize sk B L p = q at sp hr1 hq ⊢
  obtain ⟨a, b, c, d⟩ := fw_ok (isDg B) sp
  have eq : q + dgn B L q = fw (isDg B) L q := by unfold dgn; omega
  have v5 := dv_5 (dg_run (B := B) sp)
  have b19 : ∀ r2 g, RD r2 L q g → (∀ r', RD r' L (q + dgn B L q) (fst0 g (if 5 < dgn B L q ∨ nmV B L q < lo ∨ hi < nmV B L q then flt q 1 else 0)) → post (nmV B L q) r') → PX2_number_b19 t post lo hi r2 := by
    intro r2 g hr2 hq2
    unfold PX2_number_b19
    rw [hr2.2.1]
    rintro _ rfl
    have b101 : ∀ r3, RD r3 L (q + dgn B L q) g → PX2_number_b101 t post lo hi (nI q) (nmV B L q) r3 := by
      intro r3 hr3
      unfold PX2_number_b101 PX2_number_b123
      rw [hr3.2.1, pk_sub (by omega), show q + dgn B L q - q = dgn B L q by omega]
      have bad : (5 < dgn B L q ∨ nmV B L q < lo ∨ hi < nmV B L q) → PX2_failAt r3 t (nI q) 1 (fun v_r1 => post (nmV B L q) v_r1) := by
        intro y
        rw [if_pos y] at hq2
        exact cp_failAt hr3 (fun r' h' => hq2 r' h')
      refine br_c (fun y => bad (Or.inl ((nI_ltI (a := 5) (by omega) (by omega)).mp y))) (fun y => br_c (fun y2 => bad (Or.inr (Or.inl y2))) (fun y2 => br_c (fun y3 => ?_) (fun y3 => bad (Or.inr (Or.inr (Int32.not_le.mp y3))))))
      have good : ¬ (5 < dgn B L q ∨ nmV B L q < lo ∨ hi < nmV B L q) := by
        rintro (u | u | u)
        · exact y (nI_lt (a := 5) u (by omega))
        · exact y2 u
        · exact absurd u (Int32.not_lt.mpr y3)
      rw [if_neg good] at hq2
      refine hq2 r3 ?_
      unfold fst0
      by_cases e : g = 0
      · rw [if_pos e]
        rw [e] at hr3
        exact hr3
      · rw [if_neg e]
        exact hr3
    refine (fun (go : ∃ n, PX2_number_L27 t post n lo hi (nI q) (nI (dvS B q (q - q))) r2) => by rw [Nat.sub_self] at go; exact go) ?_
    have go := fr_fw (W := fun n i => PX2_number_L27 t post n lo hi (nI q) (nI (dvS B q (i - q))) (si r2 2 (nI i))) (isDg B) L q sp ?_ ?_
    · rw [show si r2 2 (nI q) = r2 from by rw [← hr2.2.1, si_self]] at go
      exact go
    · intro n
      rw [← eq]
      show PX2_number_L27 t post (n + 1) lo hi (nI q) (nI (dvS B q (q + dgn B L q - q))) (si r2 2 (nI (q + dgn B L q)))
      rw [show q + dgn B L q - q = dgn B L q by omega]
      have bb := b101 (si r2 2 (nI (q + dgn B L q))) ⟨hr2.1, rfl, hr2.2.2⟩
      unfold PX2_number_L27
      rw [si_at, show (si r2 2 (nI (q + dgn B L q))).1 1 = nI L from hr2.1, nI_31 (show q + dgn B L q < 1000 by omega)]
      by_cases e : q + dgn B L q < L
      · rw [(tx.2 _ e).2.1]
        have bx := (tx.2 _ e).1
        refine br_f (fr_nle e (by omega)) ⟨vp_in_q (by omega) (by omega), cp_isDigit (fun u v => ?_) (fun _ => br_t rfl bb)⟩
        have nd : ¬ isDg B (fw (isDg B) L q) := d (by omega)
        rw [← eq] at nd
        rw [show (48 : Int32) = nI 48 from rfl, nI_leI (by omega) (by omega)] at u
        rw [show (57 : Int32) = nI 57 from rfl, nI_leI (by omega) (by omega)] at v
        exact absurd ⟨u, v⟩ nd
      · exact br_t (fr_le (by omega) (by omega)) bb
    · intro n i h1 h2 h3 hw
      have h3' : 48 ≤ B i ∧ B i ≤ 57 := h3
      have hw' : PX2_number_L27 t post n lo hi (nI q) (nI (dvS B q (i + 1 - q))) (si r2 2 (nI (i + 1))) := hw
      rw [show i + 1 - q = (i - q) + 1 by omega] at hw'
      have st : dvS B q ((i - q) + 1) = if i - q < 5 then dvS B q (i - q) * 10 + (B (q + (i - q)) - 48) else dvS B q (i - q) := rfl
      rw [show q + (i - q) = i by omega] at st
      show PX2_number_L27 t post (n + 1) lo hi (nI q) (nI (dvS B q (i - q))) (si r2 2 (nI i))
      unfold PX2_number_L27 PX2_number_b86
      rw [si_at, show (si r2 2 (nI i)).1 1 = nI L from hr2.1, nI_31 (show i < 1000 by omega), (tx.2 i h2).2.1, pk_sub h1, nI_1]
      refine br_f (fr_nle h2 (by omega)) ⟨vp_in_q (by omega) (by omega), cp_isDigit (fun _ _ => br_f (by decide) ?_) (fun y => absurd ⟨nI_le (a := 48) h3'.1 (by omega), nI_le (b := 57) h3'.2 (by omega)⟩ y)⟩
      refine br_c (fun g5 => ?_) (fun g5 => ⟨vp_in_q (by omega) (by omega), ?_⟩)
      · rw [st, if_neg (by have := (nI_leI (a := 5) (by omega) (by omega)).mp g5; omega)] at hw'
        rintro _ rfl _ rfl
        rw [show si (si r2 2 (nI i)) 2 (nI (i + 1)) = si r2 2 (nI (i + 1)) from si_si r2 2 _ _]
        exact hw'
      · rw [st, if_pos (by
          rcases Nat.lt_or_ge (i - q) 5 with u | u
          · exact u
          · exact absurd (nI_le (a := 5) u (by omega)) g5)] at hw'
        rintro _ rfl _ rfl
        rw [show si (si r2 2 (nI i)) 2 (nI (i + 1)) = si r2 2 (nI (i + 1)) from si_si r2 2 _ _, show nI (dvS B q (i - q)) * (10 : Int32) = nI (dvS B q (i - q) * 10) from nI_mul _ 10, nI_add, show nI (dvS B q (i - q) * 10 + B i) - (48 : Int32) = nI (dvS B q (i - q) * 10 + B i - 48) from pk_sub (a := dvS B q (i - q) * 10 + B i) (b := 48) (by omega)]
        rw [show dvS B q (i - q) * 10 + B i - 48 = dvS B q (i - q) * 10 + (B i - 48) by omega]
        exact hw'
  have dc := dg_chr (B := B) (L := L) (p := q) (fun c => (tx.2 q c).1)
  unfold nmK at hq
  by_cases z : dgn B L q = 0
  · rw [if_pos z] at hq
    refine cp_isDigit (fun u v => absurd (dc.mp ⟨u, v⟩) ((dgn_0 sp).mp z)) (fun _ => br_nt rfl ?_)
    rw [hr1.2.1]
    refine cp_failAt (w := q) (k := 0) hr1 (fun r2 hr2 => b19 r2 _ hr2 (fun r' h' => hq r' ?_))
    have ne : ¬ fst0 f (flt q 0) = 0 := by
      unfold fst0
      split
      · exact flt_ne (k := 0) (by omega) (by omega)
      · assumption
    have e2 : ∀ g, fst0 (fst0 f (flt q 0)) g = fst0 f (flt q 0) := fun g => if_neg ne
    rw [e2] at h'
    exact h'
  · rw [if_neg z] at hq
    refine cp_isDigit (fun u v => br_nf (by decide) (b19 r1 f hr1 hq)) (fun y => absurd ((dgn_0 sp).mpr (fun w => y (dc.mpr w))) z)
