/-! 57: which stone next; looking -/
def pcN (L : Nat) : Nat := itn (fun k n => n + (if L.testBit k then 1 else 0)) 10 0
theorem mk_bit : ∀ L, L < 1024 → ∀ t, t < 10 → decide (bt1 (nI L) t = 1) = L.testBit t := by decide +kernel
theorem mk_clr : ∀ L, L < 1024 → ∀ t, t < 10 → L.testBit t = true → nI L &&& (((1 : Int32) <<< (nI t &&& 31)) ^^^ (-1)) = nI (L - 2 ^ t) ∧ pcN (L - 2 ^ t) + 1 = pcN L := by decide +kernel
theorem mk_z : ∀ L, L < 1024 → (pcN L = 0 → L = 0) ∧ (L ≠ 0 → ∃ t, t < 10 ∧ L.testBit t = true) := by
  have all : ∀ L, L < 1024 → (pcN L = 0 → L = 0) ∧ (L ≠ 0 → L.testBit 0 = true ∨ L.testBit 1 = true ∨ L.testBit 2 = true ∨ L.testBit 3 = true ∨ L.testBit 4 = true ∨ L.testBit 5 = true ∨ L.testBit 6 = true ∨ L.testBit 7 = true ∨ L.testBit 8 = true ∨ L.testBit 9 = true) := by decide +kernel
  intro L hL
  refine ⟨(all L hL).1, fun h => ?_⟩
  rcases (all L hL).2 h with h | h | h | h | h | h | h | h | h | h
  · exact ⟨0, by omega, h⟩
  · exact ⟨1, by omega, h⟩
  · exact ⟨2, by omega, h⟩
  · exact ⟨3, by omega, h⟩
  · exact ⟨4, by omega, h⟩
  · exact ⟨5, by omega, h⟩
  · exact ⟨6, by omega, h⟩
  · exact ⟨7, by omega, h⟩
  · exact ⟨8, by omega, h⟩
  · exact ⟨9, by omega, h⟩
theorem mk_top {L S t : Nat} (h : L < 2 ^ S) (ht : L.testBit t = true) : t < S := by
  rcases Nat.lt_or_ge t S with c | c
  · exact c
  · have : L < 2 ^ t := Nat.lt_of_lt_of_le h (Nat.pow_le_pow_right (by omega) c)
    rw [Nat.testBit_lt_two_pow this] at ht
    cases ht
theorem mk_le {L S : Nat} (h : L < 2 ^ S) (hS : S ≤ 10) : L < 1024 := Nat.lt_of_lt_of_le h (Nat.pow_le_pow_right (n := 2) (by omega) hS)
def bst1 (rt : Nat → Int64) (left : Int32) (t : Nat) (b : Int32) : Int32 := if bt1 left t = 1 then (if b = -1 then nI t else if lg_cmp (rt t) (rt b.toNatClampNeg) ≤ 0 then b else nI t) else b
def bstS (rt : Nat → Int64) (left : Int32) (n : Nat) : Int32 := itn (bst1 rt left) n (-1)
theorem bst_ix (rt : Nat → Int64) (left : Int32) : ∀ n, bstS rt left n = -1 ∨ ∃ t, t < n ∧ bstS rt left n = nI t
  | 0 => Or.inl rfl
  | n + 1 => by
    have ih := bst_ix rt left n
    show bst1 rt left n (bstS rt left n) = -1 ∨ ∃ t, t < n + 1 ∧ bst1 rt left n (bstS rt left n) = nI t
    have up : ∀ b, (b = -1 ∨ ∃ t, t < n ∧ b = nI t) → (bst1 rt left n b = -1 ∨ ∃ t, t < n + 1 ∧ bst1 rt left n b = nI t) := by
      intro b hb
      unfold bst1
      have hb' : b = -1 ∨ ∃ t, t < n + 1 ∧ b = nI t := by
        rcases hb with h | ⟨t, ht, h⟩
        · exact Or.inl h
        · exact Or.inr ⟨t, by omega, h⟩
      by_cases c : bt1 left n = 1
      · rw [if_pos c]
        by_cases d : b = -1
        · rw [if_pos d]
          exact Or.inr ⟨n, by omega, rfl⟩
        · rw [if_neg d]
          by_cases e : lg_cmp (rt n) (rt b.toNatClampNeg) ≤ 0
          · rw [if_pos e]
            exact hb'
          · rw [if_neg e]
            exact Or.inr ⟨n, by omega, rfl⟩
      · rw [if_neg c]
        exact hb'
    exact up _ ih
theorem nI_n1 {t : Nat} (h : t < 1000) : ¬ nI t = -1 := fun e => absurd ((isIx_iff (n := 1000) (by omega)).mp ⟨t, h, e.symm⟩).1 (by decide)
theorem bst_some {rt : Nat → Int64} {L : Nat} (hL : L < 1024) : ∀ n, n ≤ 10 → (bstS rt (nI L) n = -1 ∧ ∀ j, j < n → L.testBit j = false) ∨ ∃ t, t < n ∧ L.testBit t = true ∧ bstS rt (nI L) n = nI t
  | 0, _ => Or.inl ⟨rfl, fun j hj => absurd hj (Nat.not_lt_zero j)⟩
  | n + 1, hn => by
    have ih := bst_some (rt := rt) hL n (by omega)
    have hb := mk_bit L hL n (by omega)
    show (bst1 rt (nI L) n (bstS rt (nI L) n) = -1 ∧ _) ∨ ∃ t, t < n + 1 ∧ L.testBit t = true ∧ bst1 rt (nI L) n (bstS rt (nI L) n) = nI t
    unfold bst1
    by_cases c : bt1 (nI L) n = 1
    · rw [if_pos c]
      have tb : L.testBit n = true := by rw [← hb]; exact decide_eq_true c
      by_cases d : bstS rt (nI L) n = -1
      · rw [if_pos d]
        exact Or.inr ⟨n, by omega, tb, rfl⟩
      · rw [if_neg d]
        by_cases e : lg_cmp (rt n) (rt (bstS rt (nI L) n).toNatClampNeg) ≤ 0
        · rw [if_pos e]
          rcases ih with ⟨x, _⟩ | ⟨t, ht, h1, h2⟩
          · exact absurd x d
          · exact Or.inr ⟨t, by omega, h1, h2⟩
        · rw [if_neg e]
          exact Or.inr ⟨n, by omega, tb, rfl⟩
    · rw [if_neg c]
      have tb : L.testBit n = false := by rw [← hb]; exact decide_eq_false c
      rcases ih with ⟨x, y⟩ | ⟨t, ht, h1, h2⟩
      · refine Or.inl ⟨x, fun j hj => ?_⟩
        by_cases e : j = n
        · rw [e]; exact tb
        · exact y j (by omega)
      · exact Or.inr ⟨t, by omega, h1, h2⟩
theorem bst_in {rt : Nat → Int64} {L S : Nat} (hL : L < 2 ^ S) (hS : S ≤ 10) (h : pcN L ≠ 0) : ∃ t, t < S ∧ L.testBit t = true ∧ bstS rt (nI L) S = nI t := by
  rcases bst_some (rt := rt) (mk_le hL hS) S hS with ⟨x, y⟩ | g
  · have n0 : L ≠ 0 := fun e => h (by rw [e]; decide)
    obtain ⟨t, ht, tb⟩ := (mk_z L (mk_le hL hS)).2 n0
    rw [y t (mk_top hL tb)] at tb
    cases tb
  · exact g
theorem cp_bestOf {W : OV} {rt : Nat → Int64} {left : Int32} {S : Nat} (hS : S ≤ 10) (hr : ∀ t, t < S → W.2.2 1 t = rt t) {post : Int32 → Prop} (hp : post (bstS rt left S)) : PX7_bestOf W left (nI S) post := by
  unfold PX7_bestOf
  refine fr_loop (fun n i b => PX7_bestOf_L5 W post n left (nI S) b (nI i)) (bst1 rt left) S (-1) ?_ ?_
  · intro n
    unfold PX7_bestOf_L5
    exact br_t (Int32.le_refl _) hp
  · intro n i hi hw
    have hb : itn (bst1 rt left) i (-1) = -1 ∨ ∃ t, t < i ∧ itn (bst1 rt left) i (-1) = nI t := bst_ix rt left i
    generalize itn (bst1 rt left) i (-1) = b at hb hw ⊢
    unfold bst1 at hw
    rw [← nI_1] at hw
    unfold PX7_bestOf_L5 PX7_bestOf_b26
    refine br_f (fr_nle hi (by omega)) ?_
    rw [nI_31 (show i < 1000 by omega)]
    by_cases c : bt1 left i = 1
    · rw [if_pos c] at hw
      refine br_nt c (br_f (by decide) ?_)
      by_cases d : b = -1
      · rw [if_pos d] at hw
        refine br_t d ?_
        rintro _ rfl
        exact hw
      · rw [if_neg d] at hw
        obtain ⟨t, ht, rfl⟩ := hb.resolve_left d
        rw [nI_31 (show t < 1000 by omega), hr i hi, hr t (by omega)]
        rw [nI_31 (show t < 1000 by omega)] at hw
        refine br_f d ⟨vp_in_q (by omega) (by omega), vp_in_q (by omega) (by omega), ?_⟩
        refine br_if (post := fun z => PX7_bestOf_L5 W post n left (nI S) z (nI i + 1)) (fun _ h => ?_) (fun _ h => ?_) hw
        · rintro _ rfl
          exact h
        · rintro _ rfl
          exact h
    · rw [if_neg c] at hw
      refine br_nf c (br_t rfl ?_)
      rintro _ rfl
      exact hw
/-- looking: left, how many, which, minutes; 0 still looking, 1 found, 2 out of patience -/
abbrev LK : Type := Int32 × Nat × (Nat → Int32) × Int32 × Nat
def lk1 (rt : Nat → Int64) (h s : OV) (q S : Nat) (x : LK) : LK :=
  if x.2.2.2.2 = 0 then (if x.2.2.2.1 + minS h s q (bstS rt x.1 S).toNatClampNeg ≤ h.2.1 13 q then (x.1 &&& (((1 : Int32) <<< (bstS rt x.1 S &&& 31)) ^^^ (-1)), x.2.1 + 1, upd x.2.2.1 x.2.1 (bstS rt x.1 S), x.2.2.2.1 + minS h s q (bstS rt x.1 S).toNatClampNeg, if bstS rt x.1 S = s.1 2 then 1 else 0) else (x.1, x.2.1, x.2.2.1, x.2.2.2.1, 2)) else x
def lkN (rt : Nat → Int64) (h s : OV) (q S n : Nat) : LK := itn (fun _ x => lk1 rt h s q S x) n (nI (2 ^ S - 1), 0, fun _ => 0, 0, 0)
theorem lk_succ (rt : Nat → Int64) (h s : OV) (q S n : Nat) : lkN rt h s q S (n + 1) = lk1 rt h s q S (lkN rt h s q S n) := rfl
theorem lk_stay {rt : Nat → Int64} {h s : OV} {q S i : Nat} (e : (lkN rt h s q S i).2.2.2.2 ≠ 0) : ∀ d, lkN rt h s q S (i + d) = lkN rt h s q S i
  | 0 => rfl
  | d + 1 => by
    show lk1 rt h s q S (lkN rt h s q S (i + d)) = _
    rw [lk_stay e d]
    unfold lk1
    exact if_neg e
theorem lk_end {rt : Nat → Int64} {h s : OV} {q S i n : Nat} (e : (lkN rt h s q S i).2.2.2.2 ≠ 0) (hi : i ≤ n) : lkN rt h s q S n = lkN rt h s q S i := by
  have := lk_stay e (n - i)
  rwa [show i + (n - i) = n by omega] at this
/-- what is known after i stones, still looking -/
def LkI (S i : Nat) (x : LK) : Prop := x.2.2.2.2 = 0 ∧ x.2.1 = i ∧ ∃ L, L < 2 ^ S ∧ x.1 = nI L ∧ pcN L = S - i
theorem pc_full : ∀ S, S < 11 → pcN (2 ^ S - 1) = S := by decide +kernel
theorem LkI_0 {rt : Nat → Int64} {h s : OV} {q S : Nat} (hS : S ≤ 10) : LkI S 0 (lkN rt h s q S 0) := ⟨rfl, rfl, 2 ^ S - 1, Nat.sub_lt (Nat.two_pow_pos S) (by omega), rfl, pc_full S (by omega)⟩
theorem LkI_s {rt : Nat → Int64} {h s : OV} {q S i : Nat} (hS : S ≤ 10) (hi : i < S) {x : LK} (hx : LkI S i x) : ∃ t, t < S ∧ bstS rt x.1 S = nI t ∧ ∀ y, y = lk1 rt h s q S x → y.2.2.2.2 = 0 → LkI S (i + 1) y := by
  obtain ⟨e0, e1, L, hL, e2, e3⟩ := hx
  obtain ⟨t, ht, tb, eb⟩ := bst_in (rt := rt) hL hS (by omega)
  refine ⟨t, ht, by rw [e2]; exact eb, ?_⟩
  rintro y rfl hy
  unfold lk1 at hy ⊢
  rw [if_pos e0] at hy ⊢
  rw [e2, eb] at hy ⊢
  by_cases c : x.2.2.2.1 + minS h s q (nI t).toNatClampNeg ≤ h.2.1 13 q
  · rw [if_pos c] at hy ⊢
    obtain ⟨m1, m2⟩ := mk_clr L (mk_le hL hS) t (by omega) tb
    exact ⟨hy, by show x.2.1 + 1 = i + 1; rw [e1], L - 2 ^ t, Nat.lt_of_le_of_lt (Nat.sub_le _ _) hL, m1, by omega⟩
  · rw [if_neg c] at hy
    exact absurd hy (by show ¬ 2 = 0; omega)
/-- the class's walk after looking -/
def LkW (x : LK) (w : OV) : Prop := w.1 3 = nI x.2.1 ∧ w.1 4 = x.2.2.2.1 ∧ ∀ j, j < x.2.1 → w.2.1 2 j = x.2.2.1 j
theorem mk_cl : ∀ S, S < 11 → (((1 : Int32) <<< (nI S &&& 31)) - 1) = nI (2 ^ S - 1) := by decide +kernel
def fndS (x : LK) : Int32 := if x.2.2.2.2 = 1 then 1 else 0
theorem cp_lookloop_R {h s u w0 : OV} {rt : Nat → Int64} {q S : Nat} (hq : q < 4) (hS : S ≤ 10) (e4 : h.1 4 = nI S) (hr : ∀ t, t < S → w0.2.2 1 t = rt t) (e3 : w0.1 3 = 0) (ee4 : w0.1 4 = 0) (e5 : w0.1 5 = 0) {post : OV → OV → Prop} (hp : ∀ w', LkW (lkN rt h s q S S) w' → w'.1 5 = fndS (lkN rt h s q S S) → post w' u) : ∃ n, PX7_look_R_L72 h s post n (nI q) (nI (2 ^ S - 1)) 0 w0 u := by
  refine fr_rel (fun n i (p : Int32 × OV) => PX7_look_R_L72 h s post n (nI q) p.1 (nI i) p.2 u) (fun i p => p.2.2.2 1 = w0.2.2 1 ∧ p.1 = (lkN rt h s q S i).1 ∧ LkW (lkN rt h s q S i) p.2 ∧ ((LkI S i (lkN rt h s q S i) ∧ p.2.1 5 = 0) ∨ ((lkN rt h s q S i).2.2.2.2 = 1 ∧ p.2.1 5 = 1))) S (nI (2 ^ S - 1), w0) ?_ ?_ ?_
  · exact ⟨rfl, rfl, ⟨e3, ee4, fun j hj => absurd hj (Nat.not_lt_zero j)⟩, Or.inl ⟨LkI_0 hS, e5⟩⟩
  · rintro n ⟨left, w⟩ ⟨_, _, lw, c⟩
    show PX7_look_R_L72 h s post (n + 1) (nI q) left (nI S) w u
    unfold PX7_look_R_L72
    rw [e4]
    refine br_t (Int32.le_refl _) (hp w lw ?_)
    unfold fndS
    rcases c with ⟨⟨c0, _⟩, c5⟩ | ⟨c1, c5⟩
    · rw [if_neg (by rw [c0]; omega)]; exact c5
    · rw [if_pos c1]; exact c5
  · rintro n i ⟨left, w⟩ hi ⟨er, el, lw, c⟩ next
    show PX7_look_R_L72 h s post (n + 1) (nI q) left (nI i) w u
    have er' : ∀ t, t < S → w.2.2 1 t = rt t := fun t ht => by rw [show w.2.2 1 = w0.2.2 1 from er]; exact hr t ht
    unfold PX7_look_R_L72
    rw [e4]
    refine br_f (fr_nle hi (by omega)) ?_
    rcases c with ⟨ci, c5⟩ | ⟨c1, c5⟩
    · refine br_nt c5 (cp_bestOf hS er' ?_)
      obtain ⟨t, ht, eb, nx⟩ := LkI_s (rt := rt) (h := h) (s := s) (q := q) hS hi ci
      have el' : left = (lkN rt h s q S i).1 := el
      have eb' : bstS rt left S = nI t := by rw [el']; exact eb
      rw [eb']
      obtain ⟨l3, l4, lj⟩ := lw
      have l3' : w.1 3 = nI (lkN rt h s q S i).2.1 := l3
      have l4' : w.1 4 = (lkN rt h s q S i).2.2.2.1 := l4
      have kk : (lkN rt h s q S i).2.1 = i := ci.2.1
      refine br_nf (nI_n1 (by omega)) (cp_minutes hq (by omega) ?_)
      unfold PX7_look_R_b119
      refine br_f (nI_n1 (by omega)) ⟨vp_in_q hq (by omega), ?_⟩
      rw [nI_31 (show q < 1000 by omega), l4', l3', kk]
      have es := lk_succ rt h s q S i
      unfold lk1 at es
      rw [if_pos ci.1, eb, nI_31 (show t < 1000 by omega)] at es
      have nx' := nx (lkN rt h s q S (i + 1)) (lk_succ rt h s q S i)
      by_cases c : (lkN rt h s q S i).2.2.2.1 + minS h s q t ≤ h.2.1 13 q
      · rw [if_pos c] at es
        refine br_t c ?_
        rintro _ rfl
        refine ⟨vp_in_q (by omega) (by omega), ?_⟩
        rw [nI_31 (show i < 1000 by omega)]
        rintro _ rfl _ rfl _ rfl _ rfl _ rfl
        have lk3 : (sa w 2 (upd (w.2.1 2) i (nI t))).1 3 + 1 = nI (i + 1) := by
          show w.1 3 + 1 = _
          rw [l3', kk, nI_1]
        by_cases d : nI t = s.1 2
        · rw [if_pos d] at es
          refine br_nt d ?_
          rintro _ rfl _ rfl
          rw [nI_1]
          refine next (left &&& (((1 : Int32) <<< (nI t &&& 31)) ^^^ (-1)), _) ⟨er, ?_, ⟨?_, ?_, ?_⟩, Or.inr ⟨?_, rfl⟩⟩
          · rw [es, el']
          · rw [es]
            show (sa w 2 (upd (w.2.1 2) i (nI t))).1 3 + 1 = nI ((lkN rt h s q S i).2.1 + 1)
            rw [lk3, kk]
          · rw [es]
            show w.1 4 + minS h s q t = _
            rw [l4']
          · intro j hj
            rw [es] at hj ⊢
            have hj' : j < (lkN rt h s q S i).2.1 + 1 := hj
            show upd (w.2.1 2) i (nI t) j = upd (lkN rt h s q S i).2.2.1 (lkN rt h s q S i).2.1 (nI t) j
            rw [kk]
            by_cases e : j = i
            · rw [e, upd_eq, upd_eq]
            · rw [upd_ne _ _ e, upd_ne _ _ e]
              exact lj j (by omega)
          · rw [es]
        · rw [if_neg d] at es
          refine br_nf d ?_
          rintro _ rfl _ rfl
          rw [nI_1]
          refine next (left &&& (((1 : Int32) <<< (nI t &&& 31)) ^^^ (-1)), _) ⟨er, ?_, ⟨?_, ?_, ?_⟩, Or.inl ⟨nx' (by rw [es]), rfl⟩⟩
          · rw [es, el']
          · rw [es]
            show (sa w 2 (upd (w.2.1 2) i (nI t))).1 3 + 1 = nI ((lkN rt h s q S i).2.1 + 1)
            rw [lk3, kk]
          · rw [es]
            show w.1 4 + minS h s q t = _
            rw [l4']
          · intro j hj
            rw [es] at hj ⊢
            have hj' : j < (lkN rt h s q S i).2.1 + 1 := hj
            show upd (w.2.1 2) i (nI t) j = upd (lkN rt h s q S i).2.2.1 (lkN rt h s q S i).2.1 (nI t) j
            rw [kk]
            by_cases e : j = i
            · rw [e, upd_eq, upd_eq]
            · rw [upd_ne _ _ e, upd_ne _ _ e]
              exact lj j (by omega)
      · rw [if_neg c] at es
        refine br_f c ?_
        have ef : lkN rt h s q S S = lkN rt h s q S (i + 1) := lk_end (by rw [es]; show (2 : Nat) ≠ 0; decide) (by omega)
        refine hp w ?_ ?_
        · rw [ef, es]
          exact ⟨l3, l4, lj⟩
        · rw [ef, es]
          exact c5
    · refine br_nf (by rw [show w.1 5 = 1 from c5]; decide) ?_
      have ef : lkN rt h s q S S = lkN rt h s q S i := lk_end (by rw [c1]; decide) (by omega)
      refine hp w (by rw [ef]; exact lw) ?_
      rw [ef]
      unfold fndS
      rw [if_pos c1]
      exact c5
theorem cp_lookloop_N {h s w0 : OV} {rt : Nat → Int64} {q S : Nat} (hq : q < 4) (hS : S ≤ 10) (e4 : h.1 4 = nI S) (hr : ∀ t, t < S → w0.2.2 1 t = rt t) (e3 : w0.1 3 = 0) (ee4 : w0.1 4 = 0) (e5 : w0.1 5 = 0) {post : OV → Prop} (hp : ∀ w', LkW (lkN rt h s q S S) w' → w'.1 5 = fndS (lkN rt h s q S S) → post w') : ∃ n, PX7_look_N_L72 h s post n (nI q) (nI (2 ^ S - 1)) 0 w0 := by
  refine fr_rel (fun n i (p : Int32 × OV) => PX7_look_N_L72 h s post n (nI q) p.1 (nI i) p.2) (fun i p => p.2.2.2 1 = w0.2.2 1 ∧ p.1 = (lkN rt h s q S i).1 ∧ LkW (lkN rt h s q S i) p.2 ∧ ((LkI S i (lkN rt h s q S i) ∧ p.2.1 5 = 0) ∨ ((lkN rt h s q S i).2.2.2.2 = 1 ∧ p.2.1 5 = 1))) S (nI (2 ^ S - 1), w0) ?_ ?_ ?_
  · exact ⟨rfl, rfl, ⟨e3, ee4, fun j hj => absurd hj (Nat.not_lt_zero j)⟩, Or.inl ⟨LkI_0 hS, e5⟩⟩
  · rintro n ⟨left, w⟩ ⟨_, _, lw, c⟩
    show PX7_look_N_L72 h s post (n + 1) (nI q) left (nI S) w
    unfold PX7_look_N_L72
    rw [e4]
    refine br_t (Int32.le_refl _) (hp w lw ?_)
    unfold fndS
    rcases c with ⟨⟨c0, _⟩, c5⟩ | ⟨c1, c5⟩
    · rw [if_neg (by rw [c0]; omega)]; exact c5
    · rw [if_pos c1]; exact c5
  · rintro n i ⟨left, w⟩ hi ⟨er, el, lw, c⟩ next
    show PX7_look_N_L72 h s post (n + 1) (nI q) left (nI i) w
    have er' : ∀ t, t < S → w.2.2 1 t = rt t := fun t ht => by rw [show w.2.2 1 = w0.2.2 1 from er]; exact hr t ht
    unfold PX7_look_N_L72
    rw [e4]
    refine br_f (fr_nle hi (by omega)) ?_
    rcases c with ⟨ci, c5⟩ | ⟨c1, c5⟩
    · refine br_nt c5 (cp_bestOf hS er' ?_)
      obtain ⟨t, ht, eb, nx⟩ := LkI_s (rt := rt) (h := h) (s := s) (q := q) hS hi ci
      have el' : left = (lkN rt h s q S i).1 := el
      have eb' : bstS rt left S = nI t := by rw [el']; exact eb
      rw [eb']
      obtain ⟨l3, l4, lj⟩ := lw
      have l3' : w.1 3 = nI (lkN rt h s q S i).2.1 := l3
      have l4' : w.1 4 = (lkN rt h s q S i).2.2.2.1 := l4
      have kk : (lkN rt h s q S i).2.1 = i := ci.2.1
      refine br_nf (nI_n1 (by omega)) (cp_minutes hq (by omega) ?_)
      unfold PX7_look_N_b119
      refine br_f (nI_n1 (by omega)) ⟨vp_in_q hq (by omega), ?_⟩
      rw [nI_31 (show q < 1000 by omega), l4', l3', kk]
      have es := lk_succ rt h s q S i
      unfold lk1 at es
      rw [if_pos ci.1, eb, nI_31 (show t < 1000 by omega)] at es
      have nx' := nx (lkN rt h s q S (i + 1)) (lk_succ rt h s q S i)
      by_cases c : (lkN rt h s q S i).2.2.2.1 + minS h s q t ≤ h.2.1 13 q
      · rw [if_pos c] at es
        refine br_t c ?_
        rintro _ rfl
        refine ⟨vp_in_q (by omega) (by omega), ?_⟩
        rw [nI_31 (show i < 1000 by omega)]
        rintro _ rfl _ rfl _ rfl _ rfl _ rfl
        have lk3 : (sa w 2 (upd (w.2.1 2) i (nI t))).1 3 + 1 = nI (i + 1) := by
          show w.1 3 + 1 = _
          rw [l3', kk, nI_1]
        by_cases d : nI t = s.1 2
        · rw [if_pos d] at es
          refine br_nt d ?_
          rintro _ rfl _ rfl
          rw [nI_1]
          refine next (left &&& (((1 : Int32) <<< (nI t &&& 31)) ^^^ (-1)), _) ⟨er, ?_, ⟨?_, ?_, ?_⟩, Or.inr ⟨?_, rfl⟩⟩
          · rw [es, el']
          · rw [es]
            show (sa w 2 (upd (w.2.1 2) i (nI t))).1 3 + 1 = nI ((lkN rt h s q S i).2.1 + 1)
            rw [lk3, kk]
          · rw [es]
            show w.1 4 + minS h s q t = _
            rw [l4']
          · intro j hj
            rw [es] at hj ⊢
            have hj' : j < (lkN rt h s q S i).2.1 + 1 := hj
            show upd (w.2.1 2) i (nI t) j = upd (lkN rt h s q S i).2.2.1 (lkN rt h s q S i).2.1 (nI t) j
            rw [kk]
            by_cases e : j = i
            · rw [e, upd_eq, upd_eq]
            · rw [upd_ne _ _ e, upd_ne _ _ e]
              exact lj j (by omega)
          · rw [es]
        · rw [if_neg d] at es
          refine br_nf d ?_
          rintro _ rfl _ rfl
          rw [nI_1]
          refine next (left &&& (((1 : Int32) <<< (nI t &&& 31)) ^^^ (-1)), _) ⟨er, ?_, ⟨?_, ?_, ?_⟩, Or.inl ⟨nx' (by rw [es]), rfl⟩⟩
          · rw [es, el']
          · rw [es]
            show (sa w 2 (upd (w.2.1 2) i (nI t))).1 3 + 1 = nI ((lkN rt h s q S i).2.1 + 1)
            rw [lk3, kk]
          · rw [es]
            show w.1 4 + minS h s q t = _
            rw [l4']
          · intro j hj
            rw [es] at hj ⊢
            have hj' : j < (lkN rt h s q S i).2.1 + 1 := hj
            show upd (w.2.1 2) i (nI t) j = upd (lkN rt h s q S i).2.2.1 (lkN rt h s q S i).2.1 (nI t) j
            rw [kk]
            by_cases e : j = i
            · rw [e, upd_eq, upd_eq]
            · rw [upd_ne _ _ e, upd_ne _ _ e]
              exact lj j (by omega)
      · rw [if_neg c] at es
        refine br_f c ?_
        have ef : lkN rt h s q S S = lkN rt h s q S (i + 1) := lk_end (by rw [es]; show (2 : Nat) ≠ 0; decide) (by omega)
        refine hp w ?_ ?_
        · rw [ef, es]
          exact ⟨l3, l4, lj⟩
        · rw [ef, es]
          exact c5
    · refine br_nf (by rw [show w.1 5 = 1 from c5]; decide) ?_
      have ef : lkN rt h s q S S = lkN rt h s q S i := lk_end (by rw [c1]; decide) (by omega)
      refine hp w (by rw [ef]; exact lw) ?_
      rw [ef]
      unfold fndS
      rw [if_pos c1]
      exact c5
