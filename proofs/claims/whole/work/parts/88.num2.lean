/-! 88: numbers, by the reference; the words of a hill -/
theorem fr_le2 {v : Nat} (h : v < 100000) : nI v ≤ (99999 : Int32) := nI_le (b := 99999) (by omega) (by omega)
theorem mp_isDigit {m t : OV} {B : Nat → Nat} {L p : Nat} {f : Int32} (tx : TX B L t m) (hp : p ≤ L + 1) (h : RM m L p f) {post : Int32 → Prop} (h1 : (p < L ∧ isDg B p) → post 1) (h0 : ¬ (p < L ∧ isDg B p) → post 0) : PX9_isDigit m post := by
  unfold PX9_isDigit
  refine mp_sign tx h hp ?_
  have dc := dg_chr (B := B) (L := L) (p := p) (fun c => (tx.2 p c).1)
  refine sp_in32 (lo := 48) (hi := 57) (by decide) (by decide) ?_
  by_cases c : 48 ≤ chr B L p ∧ chr B L p ≤ 57
  · rw [zb_t c]
    exact h1 (dc.mp c)
  · rw [zb_f c]
    exact h0 (fun y => c (dc.mpr y))
/-- the fault of digits alone -/
noncomputable def dgK (B : Nat → Nat) (L p : Nat) : Int32 := if dgn B L p = 0 then flt p 0 else if 5 < dgn B L p then flt p 1 else 0
theorem mp_digits {m t : OV} {B : Nat → Nat} {L p : Nat} {f : Int32} (tx : TX B L t m) (hp : p ≤ L) (h : RM m L p f) {post : Int32 → OV → Prop} (hq : ∀ m', Fr [31, 32] [] [] [] m m' → RM m' L (p + dgn B L p) (fst0 f (dgK B L p)) → post (nmV B L p) m') : PX9_digits m 99999 post := by
  have l4 := tx.1
  obtain ⟨a, b, c, d⟩ := fw_ok (isDg B) hp
  have eq : p + dgn B L p = fw (isDg B) L p := by unfold dgn; omega
  have v5 := dv_5 (dg_run (B := B) hp)
  unfold PX9_digits
  unfold dgK at hq
  refine mp_isDigit tx (by omega) h (fun y => ?_) (fun y => ?_)
  · have z : ¬ dgn B L p = 0 := fun z => (dgn_0 hp).mp z y
    rw [if_neg z] at hq
    refine br_nf (by decide) ?_
    rw [h.2.1]
    rintro _ rfl
    refine (fun (go : ∃ n, PX9_digits_L25 post n 99999 (nI p) (nI (dvS B p (p - p))) m) => by rw [Nat.sub_self] at go; exact go) ?_
    have go := fr_fw (W := fun n i => PX9_digits_L25 post n 99999 (nI p) (nI (dvS B p (i - p))) (si m 31 (nI i))) (isDg B) L p hp ?_ ?_
    · rw [show si m 31 (nI p) = m from by rw [← h.2.1, si_self]] at go
      exact go
    · intro n
      rw [← eq]
      show PX9_digits_L25 post (n + 1) 99999 (nI p) (nI (dvS B p (p + dgn B L p - p))) (si m 31 (nI (p + dgn B L p)))
      rw [show p + dgn B L p - p = dgn B L p by omega]
      have fr : Fr [31, 32] [] [] [] m (si m 31 (nI (p + dgn B L p))) := Fr_si (by decide) Fr_refl
      have rm : RM (si m 31 (nI (p + dgn B L p))) L (p + dgn B L p) f := ⟨h.1, rfl, h.2.2⟩
      unfold PX9_digits_L25 PX9_digits_b87
      refine mp_isDigit (TX_fr fr (by decide) tx) (by omega) rm (fun u => ?_) (fun _ => br_t rfl ?_)
      · have nd : ¬ isDg B (fw (isDg B) L p) := d (by omega)
        rw [← eq] at nd
        exact absurd u.2 nd
      · rw [si_at, pk_sub (by omega), show p + dgn B L p - p = dgn B L p by omega]
        refine br_c (fun g => ?_) (fun g => ?_)
        · rw [if_pos ((nI_ltI (a := 5) (by omega) (by omega)).mp g)] at hq
          exact mp_fails (k := 1) rm (fun m' f' r' => hq m' (Fr_trans fr (Fr_mono f' (by decide) (by decide) (by decide) (by decide))) r')
        · rw [if_neg (fun u => g (nI_lt (a := 5) u (by omega)))] at hq
          refine br_t (fr_le2 (by omega)) (hq _ fr ?_)
          unfold fst0
          by_cases e : f = 0
          · rw [if_pos e]
            rw [e] at rm
            exact rm
          · rw [if_neg e]
            exact rm
    · intro n i h1 h2 h3 hw
      have h3' : 48 ≤ B i ∧ B i ≤ 57 := h3
      have hw' : PX9_digits_L25 post n 99999 (nI p) (nI (dvS B p (i + 1 - p))) (si m 31 (nI (i + 1))) := hw
      rw [show i + 1 - p = (i - p) + 1 by omega] at hw'
      have st : dvS B p ((i - p) + 1) = if i - p < 5 then dvS B p (i - p) * 10 + (B (p + (i - p)) - 48) else dvS B p (i - p) := rfl
      rw [show p + (i - p) = i by omega] at st
      have fr : Fr [31, 32] [] [] [] m (si m 31 (nI i)) := Fr_si (by decide) Fr_refl
      have rm : RM (si m 31 (nI i)) L i f := ⟨h.1, rfl, h.2.2⟩
      have tx' := TX_fr fr (by decide) tx
      show PX9_digits_L25 post (n + 1) 99999 (nI p) (nI (dvS B p (i - p))) (si m 31 (nI i))
      unfold PX9_digits_L25 PX9_digits_b58
      refine mp_isDigit tx' (by omega) rm (fun _ => br_f (by decide) ?_) (fun u => absurd ⟨h2, h3⟩ u)
      rw [si_at, pk_sub h1, nI_1]
      refine br_c (fun g5 => ?_) (fun g5 => mp_sign tx' rm (by omega) ?_)
      · rw [st, if_neg (by have := (nI_leI (a := 5) (by omega) (by omega)).mp g5; omega)] at hw'
        rintro _ rfl _ rfl
        rw [show si (si m 31 (nI i)) 31 (nI (i + 1)) = si m 31 (nI (i + 1)) from si_si m 31 _ _]
        exact hw'
      · rw [st, if_pos (by
          rcases Nat.lt_or_ge (i - p) 5 with u | u
          · exact u
          · exact absurd (nI_le (a := 5) u (by omega)) g5)] at hw'
        rintro _ rfl _ rfl
        have bx := (tx.2 i h2).1
        unfold chr
        rw [if_pos h2, show si (si m 31 (nI i)) 31 (nI (i + 1)) = si m 31 (nI (i + 1)) from si_si m 31 _ _, show (10 : Int32) * nI (dvS B p (i - p)) = nI (10 * dvS B p (i - p)) from nI_mul 10 _, nI_add, show nI (10 * dvS B p (i - p) + B i) - (48 : Int32) = nI (10 * dvS B p (i - p) + B i - 48) from pk_sub (a := 10 * dvS B p (i - p) + B i) (b := 48) (by omega)]
        rw [show 10 * dvS B p (i - p) + B i - 48 = dvS B p (i - p) * 10 + (B i - 48) by omega]
        exact hw'
  · have z : dgn B L p = 0 := (dgn_0 hp).mpr y
    rw [if_pos z] at hq
    refine br_nt rfl ?_
    rw [h.2.1]
    refine mp_fails (k := 0) h (fun m' f' r' => ?_)
    have q := hq m' (Fr_mono f' (by decide) (by decide) (by decide) (by decide)) (by rw [z]; exact r')
    unfold nmV at q
    rw [z] at q
    exact q
/-- a number of a clause, by the reference: nothing is read any more after a fault -/
theorem mp_amount {m t : OV} {B : Nat → Nat} {L p : Nat} {f lo hi : Int32} (tx : TX B L t m) (hp : p ≤ L) (h : RM m L p f) {post : Int32 → OV → Prop} (h0 : f = 0 → ∀ m', Fr [31, 32] [] [] [] m m' → RM m' L (sk B L p + dgn B L (sk B L p)) (nmK B L (sk B L p) lo hi) → post (nmV B L (sk B L p)) m') (h1 : ¬ f = 0 → ∀ m', Fr [31, 32] [] [] [] m m' → RM m' L (sk B L p) f → post 0 m') : PX9_amount m lo hi post := by
  have l4 := tx.1
  unfold PX9_amount
  refine mp_blanks tx hp h (fun m1 f1 r1 => ?_)
  have sp : sk B L p ≤ L := (fw_ok (isBl B) hp).2.1
  have f1' : Fr [31, 32] [] [] [] m m1 := Fr_mono f1 (by decide) (by decide) (by decide) (by decide)
  rw [r1.2.1]
  rintro _ rfl
  rw [r1.2.2]
  refine br_nc (fun e => ?_) (fun e => ?_)
  · unfold PX9_amount_b26
    rw [r1.2.2]
    exact br_nf e (h1 e m1 f1' r1)
  · have tx1 := TX_fr f1 (by decide) tx
    have v5 := dv_5 (dg_run (B := B) sp)
    refine mp_digits tx1 sp r1 (fun m2 f2 r2 => ?_)
    have f2' := Fr_trans f1' f2
    have hq := h0 e
    subst e
    have e0 : fst0 0 (dgK B L (sk B L p)) = dgK B L (sk B L p) := if_pos rfl
    rw [e0] at r2
    unfold PX9_amount_b26
    rw [r2.2.2]
    unfold nmK at hq
    unfold dgK at r2 ⊢
    by_cases z : dgn B L (sk B L p) = 0
    · rw [if_pos z] at hq r2
      rw [if_pos z]
      exact br_nf (flt_ne (k := 0) (by omega) (by omega)) (hq m2 f2' r2)
    · rw [if_neg z] at hq r2
      rw [if_neg z]
      by_cases g : 5 < dgn B L (sk B L p)
      · rw [if_pos (Or.inl g)] at hq
        rw [if_pos g] at r2
        rw [if_pos g]
        exact br_nf (flt_ne (k := 1) (by omega) (by omega)) (hq m2 f2' r2)
      · rw [if_neg g] at r2
        rw [if_neg g]
        refine br_nt rfl (sp_in32 rfl rfl ?_)
        by_cases inr : lo ≤ nmV B L (sk B L p) ∧ nmV B L (sk B L p) ≤ hi
        · rw [zb_t inr]
          rw [if_neg (by
            rintro (u | u | u)
            · exact g u
            · exact absurd u (Int32.not_lt.mpr inr.1)
            · exact absurd u (Int32.not_lt.mpr inr.2))] at hq
          exact br_nf (by decide) (hq m2 f2' r2)
        · rw [zb_f inr]
          rw [if_pos (by
            by_cases u : nmV B L (sk B L p) < lo
            · exact Or.inr (Or.inl u)
            · exact Or.inr (Or.inr (Int32.not_le.mp (fun v => inr ⟨Int32.not_lt.mp u, v⟩))))] at hq
          refine br_nt rfl (mp_fails (k := 1) r2 (fun m3 f3 r3 => hq m3 (Fr_trans f2' (Fr_mono f3 (by decide) (by decide) (by decide) (by decide))) ?_))
          exact r3
/-! the words of a hill and of a rule -/
def kwH (k : Nat) : Nat := match k with
  | 0 => 24
  | 1 => 8
  | 2 => 27
  | 3 => 25
  | 4 => 7
  | _ => 26
def kwR (k : Nat) : Nat := 7 + k
def tblB (s n : Nat) (kw : Nat → Nat) : Bool := (List.range (slen s + 1)).all (fun i => !(decide (i = slen s) || decide (sc s i = 32)) || (decide ((wst s i).1 < n) && decide ((wst s i).2 ≤ i) && decide (i - (wst s i).2 = slen (kw (wst s i).1)) && (List.range (slen (kw (wst s i).1))).all (fun j => decide (sc s ((wst s i).2 + j) = sc (kw (wst s i).1) j)))) && (List.range n).all (fun k => (List.range (slen s + 1)).any (fun i => (decide (i = slen s) || decide (sc s i = 32)) && decide ((wst s i).1 = k)))
theorem Tbl_of {s n : Nat} {kw : Nat → Nat} (h : tblB s n kw = true) : Tbl s n kw := by
  unfold tblB at h
  rw [Bool.and_eq_true, List.all_eq_true, List.all_eq_true] at h
  obtain ⟨h1, h2⟩ := h
  refine ⟨fun i hi bd => ?_, fun k hk => ?_⟩
  · have := h1 i (List.mem_range.mpr (by omega))
    have b : (decide (i = slen s) || decide (sc s i = 32)) = true := by
      rcases bd with e | e
      · rw [decide_eq_true e, Bool.true_or]
      · rw [decide_eq_true e, Bool.or_true]
    rw [b] at this
    simp only [Bool.not_true, Bool.false_or, Bool.and_eq_true, decide_eq_true_eq, List.all_eq_true, List.mem_range] at this
    obtain ⟨⟨⟨a, c⟩, d⟩, e⟩ := this
    exact ⟨(wst s i).1, a, rfl, c, d, e⟩
  · have := h2 k (List.mem_range.mpr hk)
    rw [List.any_eq_true] at this
    obtain ⟨i, hi, e⟩ := this
    rw [Bool.and_eq_true, Bool.or_eq_true, decide_eq_true_eq, decide_eq_true_eq, decide_eq_true_eq] at e
    exact ⟨i, by have := List.mem_range.mp hi; omega, e.1, e.2⟩
theorem tblH : Tbl 0 6 kwH := Tbl_of (by decide +kernel)
theorem tblR : Tbl 6 14 kwR := Tbl_of (by decide +kernel)
theorem tbl1 : ∀ s, 1 ≤ s → s ≤ 5 → Tbl s 1 (fun _ => s) := by
  intro s h1 h5
  have hs : s = 1 ∨ s = 2 ∨ s = 3 ∨ s = 4 ∨ s = 5 := by omega
  rcases hs with rfl | rfl | rfl | rfl | rfl
  · exact Tbl_of (by decide +kernel)
  · exact Tbl_of (by decide +kernel)
  · exact Tbl_of (by decide +kernel)
  · exact Tbl_of (by decide +kernel)
  · exact Tbl_of (by decide +kernel)
/-- at most one word stands at a place -/
theorem MT_one {B : Nat → Nat} {L p a b : Nat} (ha : a < 30) (hb : b < 30) (x : MT B L p a) (y : MT B L p b) : slen a = slen b ∧ ∀ j, j < slen a → sc a j = sc b j := by
  have e : slen a = slen b := x.1.symm.trans y.1
  exact ⟨e, fun j hj => (x.2 j hj).symm.trans (y.2 j (by omega))⟩
