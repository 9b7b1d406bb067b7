/-! 59: a day, by the class -/
def c99 (w : Int32) : Int32 := if w + 1 < 99 then w + 1 else 99
theorem c99_all : ∀ a, a < 100 → (99 ≤ nI a → c99 (nI a) = 99) ∧ (¬ 99 ≤ nI a → c99 (nI a) = nI a + 1) ∧ (c99 (nI a)).toNatClampNeg < 100 ∧ c99 (nI a) = nI (c99 (nI a)).toNatClampNeg := by decide +kernel
theorem c99_ix {w : Int32} (h : isIx w 100) : isIx (c99 w) 100 := by
  obtain ⟨a, ha, rfl⟩ := h
  exact ⟨_, (c99_all a ha).2.2.1, (c99_all a ha).2.2.2⟩
/-- what a seeker looked at leaves -/
def trc (q t : Nat) (s : OV) : OV := sa (sa s 3 (upd (s.2.1 3) t (c99 (s.2.1 3 t)))) 8 (upd (s.2.1 8) q (s.2.1 8 q ||| ((1 : Int32) <<< (nI t &&& 31))))
def trS (x : LK) (q n : Nat) (s : OV) : OV := itn (fun k s => trc q (x.2.2.1 k).toNatClampNeg s) n s
def sb1 (s : OV) (k : Nat) (b : Int32) : Int32 := if b = -1 then nI k else if s.2.1 4 k ≤ s.2.1 4 b.toNatClampNeg then b else nI k
def sbS (s : OV) (T : Nat) : Int32 := itn (sb1 s) T (-1)
def swS (s : OV) (T q : Nat) : OV := if sbS s T = -1 then s else if s.2.1 4 (sbS s T).toNatClampNeg ≤ s.2.1 5 q then s else sa (sa s 5 (upd (s.2.1 5) q (s.2.1 4 (sbS s T).toNatClampNeg))) 4 (upd (s.2.1 4) (sbS s T).toNatClampNeg (s.2.1 5 q))
def pbS (S : Nat) (sh : Int32) (s : OV) : OV := if sh = 1 then (if nI S - 1 ≤ s.1 2 then s else si s 2 (s.1 2 + 1)) else if sh = 2 then (if s.1 2 ≤ 0 then s else si s 2 (s.1 2 - 1)) else s
def lfS (ρ : Option OV) (h : OV) (S T q : Nat) (s : OV) : OV :=
  if (lookS ρ h s q S).2.2.2.2 = 1 then pbS S (h.2.1 15 q) (swS (sa (trS (lookS ρ h s q S) q (lookS ρ h s q S).2.1 s) 6 (upd ((trS (lookS ρ h s q S) q (lookS ρ h s q S).2.1 s).2.1 6) q ((trS (lookS ρ h s q S) q (lookS ρ h s q S).2.1 s).1 0))) T q) else sa (trS (lookS ρ h s q S) q (lookS ρ h s q S).2.1 s) 7 (upd ((trS (lookS ρ h s q S) q (lookS ρ h s q S).2.1 s).2.1 7) q (c99 ((trS (lookS ρ h s q S) q (lookS ρ h s q S).2.1 s).2.1 7 q)))
def sk1 (ρ : Option OV) (h : OV) (S T q : Nat) (p : OV × Int32) : OV × Int32 := if p.1.2.1 6 q = -1 then (lfS ρ h S T q p.1, if (lookS ρ h p.1 q S).2.2.2.2 = 1 then p.2 + 1 else p.2) else p
def psN (ρ : Option OV) (h : OV) (S T n : Nat) (s : OV) : OV × Int32 := itn (fun q p => sk1 ρ h S T q p) n (s, 0)
def seenS (h s : OV) (S : Nat) : Prop := isIx (s.1 2) S ∧ ¬ s.2.1 3 (s.1 2).toNatClampNeg < h.1 2
def dayS (s : OV) : OV := si s 0 (s.1 0 + 1)
/-- walkers come, drawn or told; then the day's end -/
noncomputable def nwS (h : OV) (S K : Nat) (dr : Prop) (s : OV) : OV := dayS (if zb ((dr ∨ wlkS h K (s.1 0)) ∧ seenS h s S) = 1 then si s 2 (-1) else s)
noncomputable def passS (ρ : Option OV) (h : OV) (S T Q K : Nat) (dr : Prop) (s : OV) : OV := nwS h S K dr (psN ρ h S T Q s).1
def pasN (ρ : Option OV) (h : OV) (S T Q : Nat) (s : OV) : Int32 := (psN ρ h S T Q s).2
/-- what is known of a looking: stones only, and a find is the tin's place -/
theorem lk_ok {rt : Nat → Int64} {h s : OV} {q S : Nat} (hS : S ≤ 10) : ∀ n, n ≤ S → ((lkN rt h s q S n).2.1 ≤ n ∧ (∀ j, j < (lkN rt h s q S n).2.1 → ∃ t, t < S ∧ (lkN rt h s q S n).2.2.1 j = nI t) ∧ (((lkN rt h s q S n).2.2.2.2 = 0 ∧ LkI S n (lkN rt h s q S n)) ∨ ((lkN rt h s q S n).2.2.2.2 = 1 ∧ isIx (s.1 2) S) ∨ (lkN rt h s q S n).2.2.2.2 = 2))
  | 0, _ => ⟨Nat.le_refl 0, fun j hj => absurd hj (Nat.not_lt_zero j), Or.inl ⟨rfl, LkI_0 hS⟩⟩
  | n + 1, hn => by
    obtain ⟨a, b, c⟩ := lk_ok (rt := rt) (h := h) (s := s) (q := q) hS n (by omega)
    rcases c with ⟨c0, ci⟩ | c | c
    · obtain ⟨t, ht, eb, nx⟩ := LkI_s (rt := rt) (h := h) (s := s) (q := q) hS (show n < S by omega) ci
      have nx' := nx (lkN rt h s q S (n + 1)) (lk_succ rt h s q S n)
      have es := lk_succ rt h s q S n
      unfold lk1 at es
      rw [if_pos c0, eb, nI_31 (show t < 1000 by omega)] at es
      by_cases d : (lkN rt h s q S n).2.2.2.1 + minS h s q t ≤ h.2.1 13 q
      · rw [if_pos d] at es
        refine ⟨?_, ?_, ?_⟩
        · rw [es]
          show (lkN rt h s q S n).2.1 + 1 ≤ n + 1
          omega
        · intro j hj
          rw [es] at hj ⊢
          have hj' : j < (lkN rt h s q S n).2.1 + 1 := hj
          show ∃ t', t' < S ∧ upd (lkN rt h s q S n).2.2.1 (lkN rt h s q S n).2.1 (nI t) j = nI t'
          by_cases e : j = (lkN rt h s q S n).2.1
          · exact ⟨t, ht, by rw [e, upd_eq]⟩
          · rw [upd_ne _ _ e]
            exact b j (by omega)
        · by_cases f : nI t = s.1 2
          · rw [if_pos f] at es
            refine Or.inr (Or.inl ⟨by rw [es], ⟨t, ht, f.symm⟩⟩)
          · rw [if_neg f] at es
            refine Or.inl ⟨by rw [es], nx' (by rw [es])⟩
      · rw [if_neg d] at es
        refine ⟨by rw [es]; show (lkN rt h s q S n).2.1 ≤ n + 1; omega, fun j hj => ?_, Or.inr (Or.inr (by rw [es]))⟩
        rw [es] at hj ⊢
        exact b j hj
    · have e := lk_stay (rt := rt) (h := h) (s := s) (q := q) (S := S) (i := n) (by rw [c.1]; decide) 1
      rw [e]
      exact ⟨by omega, b, Or.inr (Or.inl c)⟩
    · have e := lk_stay (rt := rt) (h := h) (s := s) (q := q) (S := S) (i := n) (by rw [c]; decide) 1
      rw [e]
      exact ⟨by omega, b, Or.inr (Or.inr c)⟩
theorem look_ok {ρ : Option OV} {h s : OV} {q S : Nat} (hS : S ≤ 10) : (lookS ρ h s q S).2.1 ≤ S ∧ (∀ j, j < (lookS ρ h s q S).2.1 → ∃ t, t < S ∧ (lookS ρ h s q S).2.2.1 j = nI t) ∧ ((lookS ρ h s q S).2.2.2.2 = 1 → isIx (s.1 2) S) := by
  obtain ⟨a, b, c⟩ := lk_ok (rt := fun t => ratS ρ h s q t) (h := h) (s := s) (q := q) hS S (Nat.le_refl S)
  refine ⟨a, b, fun e => ?_⟩
  have e' : (lkN (fun t => ratS ρ h s q t) h s q S S).2.2.2.2 = 1 := e
  rcases c with ⟨c, _⟩ | c | c
  · rw [c] at e'; cases e'
  · exact c.2
  · rw [c] at e'; cases e'
theorem cp_leaveTraces {w s : OV} {x : LK} {q S : Nat} (hq : q < 4) (hS : S ≤ 10) (lw : LkW x w) (hk : x.2.1 ≤ S) (hl : ∀ j, j < x.2.1 → ∃ t, t < S ∧ x.2.2.1 j = nI t) {post : OV → Prop} (hp : post (trS x q x.2.1 s)) : PX7_leaveTraces w s (nI q) post := by
  unfold PX7_leaveTraces
  refine fr_loop (fun n i s => PX7_leaveTraces_L2 w post n (nI q) (nI i) s) (fun k s => trc q (x.2.2.1 k).toNatClampNeg s) x.2.1 s ?_ ?_
  · intro n
    unfold PX7_leaveTraces_L2
    rw [lw.1]
    exact br_t (Int32.le_refl _) hp
  · intro n i hi hw
    generalize itn (fun k s => trc q (x.2.2.1 k).toNatClampNeg s) i s = s at hw ⊢
    unfold PX7_leaveTraces_L2
    obtain ⟨t, ht, e⟩ := hl i hi
    rw [lw.1, nI_31 (show i < 1000 by omega), nI_31 (show q < 1000 by omega), lw.2.2 i hi, e]
    rw [e, nI_31 (show t < 1000 by omega)] at hw
    refine br_f (fr_nle hi (by omega)) ⟨vp_in_q (by omega) (by omega), ?_⟩
    rintro _ rfl
    rw [nI_31 (show t < 1000 by omega)]
    refine ⟨vp_in_q (by omega) (by omega), ?_⟩
    rintro _ rfl
    refine ⟨vp_in_q (by omega) (by omega), ?_⟩
    rintro _ rfl
    refine ⟨vp_in_q (by omega) (by omega), ?_⟩
    rintro _ rfl
    refine ⟨vp_in_q (by omega) (by omega), ?_⟩
    rintro _ rfl _ rfl
    rw [nI_1]
    exact hw
theorem sb_ix (s : OV) : ∀ n, (n = 0 → sbS s n = -1) ∧ (0 < n → ∃ t, t < n ∧ sbS s n = nI t)
  | 0 => ⟨fun _ => rfl, fun h => absurd h (by omega)⟩
  | n + 1 => by
    refine ⟨fun h => absurd h (by omega), fun _ => ?_⟩
    show ∃ t, t < n + 1 ∧ sb1 s n (sbS s n) = nI t
    unfold sb1
    by_cases d : sbS s n = -1
    · rw [if_pos d]
      exact ⟨n, by omega, rfl⟩
    · rw [if_neg d]
      by_cases e : s.2.1 4 n ≤ s.2.1 4 (sbS s n).toNatClampNeg
      · rw [if_pos e]
        rcases Nat.eq_zero_or_pos n with z | z
        · exact absurd ((sb_ix s n).1 z) d
        · obtain ⟨t, ht, et⟩ := (sb_ix s n).2 z
          exact ⟨t, by omega, et⟩
      · rw [if_neg e]
        exact ⟨n, by omega, rfl⟩
theorem cp_swap {h s : OV} {q T : Nat} (hq : q < 4) (hT : T ≤ 6) (e9 : h.1 9 = nI T) {post : OV → Prop} (hp : post (swS s T q)) : PX7_swap h s (nI q) post := by
  unfold PX7_swap
  refine fr_loop (fun n i b => PX7_swap_L5 h post n (nI q) b (nI i) s) (sb1 s) T (-1) ?_ ?_
  · intro n
    have hb := sb_ix s T
    rw [show itn (sb1 s) T (-1) = sbS s T from rfl]
    unfold swS at hp
    unfold PX7_swap_L5
    rw [e9]
    refine br_t (Int32.le_refl _) ?_
    by_cases d : sbS s T = -1
    · rw [if_pos d] at hp
      exact br_t d hp
    · rw [if_neg d] at hp
      have hT0 : 0 < T := by
        rcases Nat.eq_zero_or_pos T with z | z
        · exact absurd (hb.1 z) d
        · exact z
      obtain ⟨t, ht, et⟩ := hb.2 hT0
      rw [et] at hp d ⊢
      rw [nI_31 (show t < 1000 by omega)] at hp
      rw [nI_31 (show t < 1000 by omega), nI_31 (show q < 1000 by omega)]
      refine br_f d ⟨vp_in_q (by omega) (by omega), vp_in_q (by omega) (by omega), ?_⟩
      refine br_if (post := post) (fun _ h => h) (fun _ h => ⟨vp_in_q (by omega) (by omega), ?_⟩) hp
      rintro _ rfl
      refine ⟨vp_in_q (by omega) (by omega), ?_⟩
      rintro _ rfl
      refine ⟨vp_in_q (by omega) (by omega), ?_⟩
      rintro _ rfl
      refine ⟨vp_in_q (by omega) (by omega), ?_⟩
      rintro _ rfl
      exact h
  · intro n i hi hw
    have hb := sb_ix s i
    rw [show itn (sb1 s) i (-1) = sbS s i from rfl] at hw ⊢
    unfold sb1 at hw
    rw [← nI_1] at hw
    unfold PX7_swap_L5
    rw [e9]
    refine br_f (fr_nle hi (by omega)) ?_
    by_cases d : sbS s i = -1
    · rw [if_pos d] at hw
      refine br_t d ?_
      rintro _ rfl
      exact hw
    · rw [if_neg d] at hw
      have hT0 : 0 < i := by
        rcases Nat.eq_zero_or_pos i with z | z
        · exact absurd (hb.1 z) d
        · exact z
      obtain ⟨t, ht, et⟩ := hb.2 hT0
      rw [et] at hw d ⊢
      rw [nI_31 (show t < 1000 by omega)] at hw
      rw [nI_31 (show t < 1000 by omega), nI_31 (show i < 1000 by omega)]
      refine br_f d ⟨vp_in_q (by omega) (by omega), vp_in_q (by omega) (by omega), ?_⟩
      refine br_if (post := fun z => PX7_swap_L5 h post n (nI q) z (nI i + 1) s) (fun _ h => ?_) (fun _ h => ?_) hw
      · rintro _ rfl
        exact h
      · rintro _ rfl
        exact h
theorem cp_putBack {h s : OV} {S : Nat} {sh : Int32} (e4 : h.1 4 = nI S) {post : OV → Prop} (hp : post (pbS S sh s)) : PX7_putBack h s sh post := by
  unfold PX7_putBack PX7_putBack_b31
  unfold pbS at hp
  rw [e4]
  by_cases c : sh = 1
  · rw [if_pos c] at hp
    refine br_nt c (br_if (post := post) (fun _ h => ?_) (fun _ h => ?_) hp)
    · exact br_nf (by rw [c]; decide) h
    · rintro _ rfl _ rfl
      exact h
  · rw [if_neg c] at hp
    refine br_nf c (br_ifn (post := post) (fun _ h => ?_) (fun _ h => h) hp)
    refine br_if (post := post) (fun _ h => h) (fun _ h => ?_) h
    rintro _ rfl _ rfl
    exact h
theorem cp_isSeen {h s : OV} {S : Nat} (hS : S ≤ 10) (e4 : h.1 4 = nI S) {post : Int32 → Prop} (hp : post (zb (seenS h s S))) : PX7_isSeen h s post := by
  unfold PX7_isSeen PX7_isSeen_b23
  rw [e4]
  by_cases c : isIx (s.1 2) S
  · obtain ⟨t, ht, e⟩ := c
    have c : isIx (s.1 2) S := ⟨t, ht, e⟩
    unfold seenS at hp
    rw [e, nI_31 (show t < 1000 by omega)] at hp ⊢
    refine br_f (nI_pos (by omega)) (br_f (fr_nle ht (by omega)) (br_f (by decide) ⟨vp_in_q (by omega) (by omega), ?_⟩))
    refine br_c (fun d => ?_) (fun d => ?_)
    · rw [zb_f (fun x => x.2 d)] at hp
      exact hp
    · rw [zb_t ⟨⟨t, ht, rfl⟩, d⟩] at hp
      exact hp
  · rw [zb_f (fun x => c x.1)] at hp
    refine br_c (fun _ => br_t rfl hp) (fun d => br_t ?_ (br_t rfl hp))
    rcases isIx_no (by omega) c with g | g
    · exact absurd g d
    · exact g
theorem cp_pass_end_R {h : OV} {S T Q K : Nat} {dr : Int32} (lim : Lim S T Q K) (e4 : h.1 4 = nI S) (e16 : h.1 16 = nI K) {w u s : OV} {c : Int32} {post : Int32 → OV → OV → OV → Prop} (hp : post c w u (nwS h S K (¬ dr = 0) s)) : (¬ dr = 0 → PX7_pass_R_b128 h post c w u s) ∧ (dr = 0 → PX0_walkersCome h (s.1 0) (fun r3 => ((r3 = ((0 : Int32)) → PX7_pass_R_b141 h post c w u s) ∧ (¬ r3 = ((0 : Int32)) → PX7_pass_R_b128 h post c w u s)))) := by
  have b141 : ∀ s', post c w u (dayS s') → PX7_pass_R_b141 h post c w u s' := by
    intro s' h
    unfold PX7_pass_R_b141
    rintro _ rfl _ rfl
    exact h
  have b128 : ((¬ dr = 0) ∨ wlkS h K (s.1 0)) → PX7_pass_R_b128 h post c w u s := by
    intro a
    unfold PX7_pass_R_b128
    refine cp_isSeen lim.1 e4 ?_
    unfold nwS at hp
    by_cases g : seenS h s S
    · rw [zb_t g]
      rw [zb_t ⟨a, g⟩, if_pos rfl] at hp
      refine br_f (by decide) ?_
      rintro _ rfl
      exact b141 _ hp
    · rw [zb_f g]
      rw [zb_f (fun x => g x.2), if_neg (by decide)] at hp
      exact br_t rfl (b141 _ hp)
  refine br_nc (fun a => b128 (Or.inl a)) (fun a => cp_walkersCome lim.2.2.2 e16 ?_)
  by_cases g : wlkS h K (s.1 0)
  · rw [zb_t g]
    exact br_f (by decide) (b128 (Or.inr g))
  · rw [zb_f g]
    refine br_t rfl (b141 _ ?_)
    unfold nwS at hp
    rw [zb_f (fun x => x.1.elim (fun y => y a) g), if_neg (by decide)] at hp
    exact hp
theorem cp_pass_R {w h u s : OV} {S T Q K : Nat} {dr : Int32} (hok : Hok h S T Q K) (ok : RuleOk u) {post : Int32 → OV → OV → OV → Prop} (hp : ∀ w' f, post (pasN (some u) h S T Q s) w' (sl u 5 f) (passS (some u) h S T Q K (¬ dr = 0) s)) : PX7_pass_R w h u s dr post := by
  obtain ⟨lim, e4, e9, e11, e16⟩ := hok
  have l1 := lim.1
  have l2 := lim.2.1
  have l3 := lim.2.2.1
  unfold PX7_pass_R
  refine fr_rel (fun n i (p : OV × OV × OV × Int32) => PX7_pass_R_L6 h post n dr p.2.2.2 (nI i) p.1 p.2.1 p.2.2.1) (fun i p => (∃ f, p.2.1 = sl u 5 f) ∧ (p.2.2.1, p.2.2.2) = psN (some u) h S T i s) Q (w, u, s, 0) ⟨⟨_, (sl_self u 5).symm⟩, rfl⟩ ?_ ?_
  · rintro n ⟨w, v, s1, c⟩ ⟨⟨f, ef⟩, es⟩
    have ef' : v = sl u 5 f := ef
    subst ef'
    show PX7_pass_R_L6 h post (n + 1) dr c (nI Q) w (sl u 5 f) s1
    have e1 : s1 = (psN (some u) h S T Q s).1 := congrArg Prod.fst es
    have e2 : c = (psN (some u) h S T Q s).2 := congrArg Prod.snd es
    unfold PX7_pass_R_L6
    rw [e11]
    refine br_t (Int32.le_refl _) (cp_pass_end_R (T := T) (Q := Q) lim e4 e16 ?_)
    rw [e1, e2]
    exact hp w f
  · rintro n i ⟨w, v, s1, c⟩ hi ⟨⟨f, ef⟩, es⟩ next
    have ef' : v = sl u 5 f := ef
    subst ef'
    show PX7_pass_R_L6 h post (n + 1) dr c (nI i) w (sl u 5 f) s1
    have nx : ∀ w' f', PX7_pass_R_L6 h post n dr (sk1 (some u) h S T i (s1, c)).2 (nI (i + 1)) w' (sl u 5 f') (sk1 (some u) h S T i (s1, c)).1 := by
      intro w' f'
      refine next (w', sl u 5 f', (sk1 (some u) h S T i (s1, c)).1, (sk1 (some u) h S T i (s1, c)).2) ⟨⟨f', rfl⟩, ?_⟩
      show sk1 (some u) h S T i (s1, c) = sk1 (some u) h S T i (psN (some u) h S T i s)
      rw [← es]
    unfold sk1 at nx
    rw [← nI_1] at nx
    unfold PX7_pass_R_L6
    rw [e11, nI_31 (show i < 1000 by omega)]
    refine br_f (fr_nle hi (by omega)) ⟨vp_in_q (by omega) (by omega), ?_⟩
    refine br_nc (fun d => ?_) (fun d => ?_)
    · rintro _ rfl
      simp only [if_neg d] at nx
      exact nx w f
    · simp only [if_pos d] at nx
      refine cp_look_R (by omega) l1 e4 (RuleOk_sl ok) (fun w' f' lw lf => ?_)
      have el : lookS (some (sl u 5 f)) h s1 i S = lookS (some u) h s1 i S := by
        unfold lookS
        rw [show (fun t => ratS (some (sl u 5 f)) h s1 i t) = (fun t => ratS (some u) h s1 i t) from funext (fun t => rat_sl u f h s1 i t)]
      rw [el] at lw lf
      rw [sl_sl]
      obtain ⟨k1, k2, k3⟩ := look_ok (ρ := some u) (h := h) (s := s1) (q := i) l1
      refine cp_leaveTraces (by omega) l1 lw k1 k2 ?_
      unfold lfS at nx
      unfold fndS at lf
      rw [lf]
      by_cases g : (lookS (some u) h s1 i S).2.2.2.2 = 1
      · simp only [if_pos g] at nx
        rw [if_pos g]
        refine br_f (by decide) ?_
        rintro _ rfl _ rfl
        refine ⟨vp_in_q (by omega) (by omega), ?_⟩
        rintro _ rfl
        refine cp_swap (by omega) l2 e9 ⟨vp_in_q (by omega) (by omega), cp_putBack e4 ?_⟩
        rintro _ rfl
        exact nx w' f'
      · simp only [if_neg g] at nx
        rw [if_neg g]
        refine br_t rfl ⟨vp_in_q (by omega) (by omega), ?_⟩
        rintro _ rfl
        refine ⟨vp_in_q (by omega) (by omega), ?_⟩
        rintro _ rfl _ rfl
        exact nx w' f'
theorem cp_pass_end_N {h : OV} {S T Q K : Nat} {dr : Int32} (lim : Lim S T Q K) (e4 : h.1 4 = nI S) (e16 : h.1 16 = nI K) {w s : OV} {c : Int32} {post : Int32 → OV → OV → Prop} (hp : post c w (nwS h S K (¬ dr = 0) s)) : (¬ dr = 0 → PX7_pass_N_b128 h post c w s) ∧ (dr = 0 → PX0_walkersCome h (s.1 0) (fun r3 => ((r3 = ((0 : Int32)) → PX7_pass_N_b141 h post c w s) ∧ (¬ r3 = ((0 : Int32)) → PX7_pass_N_b128 h post c w s)))) := by
  have b141 : ∀ s', post c w (dayS s') → PX7_pass_N_b141 h post c w s' := by
    intro s' h
    unfold PX7_pass_N_b141
    rintro _ rfl _ rfl
    exact h
  have b128 : ((¬ dr = 0) ∨ wlkS h K (s.1 0)) → PX7_pass_N_b128 h post c w s := by
    intro a
    unfold PX7_pass_N_b128
    refine cp_isSeen lim.1 e4 ?_
    unfold nwS at hp
    by_cases g : seenS h s S
    · rw [zb_t g]
      rw [zb_t ⟨a, g⟩, if_pos rfl] at hp
      refine br_f (by decide) ?_
      rintro _ rfl
      exact b141 _ hp
    · rw [zb_f g]
      rw [zb_f (fun x => g x.2), if_neg (by decide)] at hp
      exact br_t rfl (b141 _ hp)
  refine br_nc (fun a => b128 (Or.inl a)) (fun a => cp_walkersCome lim.2.2.2 e16 ?_)
  by_cases g : wlkS h K (s.1 0)
  · rw [zb_t g]
    exact br_f (by decide) (b128 (Or.inr g))
  · rw [zb_f g]
    refine br_t rfl (b141 _ ?_)
    unfold nwS at hp
    rw [zb_f (fun x => x.1.elim (fun y => y a) g), if_neg (by decide)] at hp
    exact hp
theorem cp_pass_N {w h s : OV} {S T Q K : Nat} {dr : Int32} (hok : Hok h S T Q K) {post : Int32 → OV → OV → Prop} (hp : ∀ w', post (pasN none h S T Q s) w' (passS none h S T Q K (¬ dr = 0) s)) : PX7_pass_N w h s dr post := by
  obtain ⟨lim, e4, e9, e11, e16⟩ := hok
  have l1 := lim.1
  have l2 := lim.2.1
  have l3 := lim.2.2.1
  unfold PX7_pass_N
  refine fr_rel (fun n i (p : OV × OV × Int32) => PX7_pass_N_L6 h post n dr p.2.2 (nI i) p.1 p.2.1) (fun i p => (p.2.1, p.2.2) = psN none h S T i s) Q (w, s, 0) rfl ?_ ?_
  · rintro n ⟨w, s1, c⟩ es
    show PX7_pass_N_L6 h post (n + 1) dr c (nI Q) w s1
    have e1 : s1 = (psN none h S T Q s).1 := congrArg Prod.fst es
    have e2 : c = (psN none h S T Q s).2 := congrArg Prod.snd es
    unfold PX7_pass_N_L6
    rw [e11]
    refine br_t (Int32.le_refl _) (cp_pass_end_N (T := T) (Q := Q) lim e4 e16 ?_)
    rw [e1, e2]
    exact hp w
  · rintro n i ⟨w, s1, c⟩ hi es next
    show PX7_pass_N_L6 h post (n + 1) dr c (nI i) w s1
    have nx : ∀ w', PX7_pass_N_L6 h post n dr (sk1 none h S T i (s1, c)).2 (nI (i + 1)) w' (sk1 none h S T i (s1, c)).1 := by
      intro w'
      refine next (w', (sk1 none h S T i (s1, c)).1, (sk1 none h S T i (s1, c)).2) ?_
      show sk1 none h S T i (s1, c) = sk1 none h S T i (psN none h S T i s)
      rw [← show (s1, c) = psN none h S T i s from es]
    unfold sk1 at nx
    rw [← nI_1] at nx
    unfold PX7_pass_N_L6
    rw [e11, nI_31 (show i < 1000 by omega)]
    refine br_f (fr_nle hi (by omega)) ⟨vp_in_q (by omega) (by omega), ?_⟩
    refine br_nc (fun d => ?_) (fun d => ?_)
    · rintro _ rfl
      simp only [if_neg d] at nx
      exact nx w
    · simp only [if_pos d] at nx
      refine cp_look_N (by omega) l1 e4 (fun w' lw lf => ?_)
      obtain ⟨k1, k2, k3⟩ := look_ok (ρ := none) (h := h) (s := s1) (q := i) l1
      refine cp_leaveTraces (by omega) l1 lw k1 k2 ?_
      unfold lfS at nx
      unfold fndS at lf
      rw [lf]
      by_cases g : (lookS none h s1 i S).2.2.2.2 = 1
      · simp only [if_pos g] at nx
        rw [if_pos g]
        refine br_f (by decide) ?_
        rintro _ rfl _ rfl
        refine ⟨vp_in_q (by omega) (by omega), ?_⟩
        rintro _ rfl
        refine cp_swap (by omega) l2 e9 ⟨vp_in_q (by omega) (by omega), cp_putBack e4 ?_⟩
        rintro _ rfl
        exact nx w'
      · simp only [if_neg g] at nx
        rw [if_neg g]
        refine br_t rfl ⟨vp_in_q (by omega) (by omega), ?_⟩
        rintro _ rfl
        refine ⟨vp_in_q (by omega) (by omega), ?_⟩
        rintro _ rfl _ rfl
        exact nx w'
