/-! 974: a test's stack; words taken -/
def IT : List Nat := [31, 32, 35, 36, 37, 38]
def AT : List Nat := [41, 42, 47]
def SKc : List Int32 → (Nat → Int32) → Prop
  | [], _ => True
  | x :: S, f => f S.length = x ∧ SKc S f
theorem SKc_fr {f f' : Nat → Int32} : ∀ {S : List Int32}, (∀ j, j < S.length → f' j = f j) → SKc S f → SKc S f'
  | [], _, _ => trivial
  | x :: S, h, g => ⟨(h S.length (Nat.lt_succ_self _)).trans g.1, SKc_fr (fun j hj => h j (Nat.lt_succ_of_lt hj)) g.2⟩
def TS (m0 : OV) (L s p e k : Nat) (st : Nat → Int32) (S : List Int32) (d : Nat) (m : OV) : Prop := MS m0 L s 0 p e k st m ∧ m.1 36 = nI d ∧ m.1 38 = nI S.length ∧ SKc S (m.2.1 47)
theorem TS_fr {m0 m m' : OV} {L s p e k p' e' k' d : Nat} {st st' : Nat → Int32} {S : List Int32} (w : TS m0 L s p e k st S d m) (f : FX IR AR s m m') (w' : MS m0 L s 0 p' e' k' st' m') : TS m0 L s p' e' k' st' S d m' := ⟨w', (f.1.1 36 (by decide)).trans w.2.1, (f.1.1 38 (by decide)).trans w.2.2.1, by rw [f.1.2.1 47 (by decide) (by decide)]; exact w.2.2.2⟩
def topS : List Int32 → Int32
  | [] => -1
  | x :: _ => x
theorem mp_top {m0 m : OV} {L s p e k d : Nat} {st : Nat → Int32} {S : List Int32} (w : TS m0 L s p e k st S d m) (hS : S.length ≤ 60) {post : Int32 → Prop} (hq : post (topS S)) : PX9_top m post := by
  unfold PX9_top
  rw [w.2.2.1]
  cases S with
  | nil => exact br_nt rfl hq
  | cons x S =>
    have hS' : S.length + 1 ≤ 60 := hS
    have e : nI (x :: S).length - 1 = nI S.length := nI_dn1
    rw [e]
    refine br_nf (fun y => ?_) ⟨vp_in_q (by omega) (by omega), ?_⟩
    · have : (x :: S).length = 0 := nI_inj (a := (x :: S).length) (b := 0) (by show S.length + 1 < 1000; omega) (by omega) y
      exact absurd this (Nat.succ_ne_zero _)
    · rw [nI_31 (show S.length < 1000 by omega), w.2.2.2.1]
      exact hq
theorem FX_T {m m' : OV} {s : Nat} (f : FX IR AR s m m') : FX IT AT s m m' := FX_mono f (by decide) (by decide)
theorem FX_TI {m m' : OV} {s : Nat} {I A : List Nat} (f : Fr I A [] [] m m') (h : ∀ k ∈ I, k ∈ IT) (hA : A = [47] ∨ A = []) : FX IT AT s m m' := by
  rcases hA with rfl | rfl
  · exact FX_mono (FX_fr f (by decide) (by decide)) h (by decide)
  · exact FX_mono (FX_fr f (by decide) (by decide)) h (by decide)
theorem MS_47 {m0 m m' : OV} {L s p e k : Nat} {F : Int32} {st : Nat → Int32} (w : MS m0 L s F p e k st m) (f : Fr [36, 38] [47] [] [] m m') : MS m0 L s F p e k st m' := by
  obtain ⟨mc, e32, ⟨q, h1, h2⟩, g⟩ := w
  refine ⟨MC_fr mc f (by decide) (by decide), (f.1 32 (by decide)).trans e32, ⟨q, h1, (f.1 31 (by decide)).trans h2⟩, fun z => ?_⟩
  obtain ⟨a, b, c, d, rel⟩ := g z
  refine ⟨a, (f.1 31 (by decide)).trans b, (f.1 35 (by decide)).trans c, (f.1 37 (by decide)).trans d, fun j hj => ?_⟩
  rw [f.2.1 41 (by decide) (by decide), f.2.1 42 (by decide) (by decide)]
  exact rel j hj
/-- a push -/
theorem mp_b40 {m : OV} {n : Nat} {x : Int32} (h : m.1 38 = nI n) (hn : n ≤ 60) {post : OV → Prop} (hq : ∀ m', Fr [36, 38] [47] [] [] m m' → m'.1 36 = m.1 36 → m'.1 38 = nI (n + 1) → m'.2.1 47 n = x → (∀ j, j < n → m'.2.1 47 j = m.2.1 47 j) → post m') : PX9_opens_b40 post x m := by
  unfold PX9_opens_b40
  rw [h]
  refine ⟨vp_in_q (by omega) (by omega), ?_⟩
  rw [nI_31 (show n < 1000 by omega)]
  rintro _ rfl
  rw [show (sa m 47 (upd (m.2.1 47) n x)).1 38 = nI n from h, nI_1]
  rintro _ rfl _ rfl
  exact hq _ (Fr_si (by decide) (Fr_sa (by decide) (by decide) Fr_refl)) rfl rfl (upd_eq _ _ _) (fun j hj => upd_ne _ _ (by omega))
theorem SK_push {m m' : OV} {S : List Int32} {x : Int32} (w : SKc S (m.2.1 47)) (h1 : m'.2.1 47 S.length = x) (h2 : ∀ j, j < S.length → m'.2.1 47 j = m.2.1 47 j) : SKc (x :: S) (m'.2.1 47) := ⟨h1, SKc_fr h2 w⟩
theorem mp_open1 {m0 m : OV} {L s p e k d : Nat} {st : Nat → Int32} {S : List Int32} {x : Int32} (w : TS m0 L s p e k st S d m) (hS : S.length ≤ 60) (hx : ¬ x = 9 ∧ ¬ x = 12) {post : OV → Prop} (hq : ∀ m', FX IT AT s m m' → TS m0 L s p e k st (x :: S) d m' → post m') : PX9_opens m x post := by
  unfold PX9_opens
  refine br_f hx.1 (br_nf hx.2 (mp_b40 w.2.2.1 hS (fun m' f a b c g => hq m' (FX_TI f (by decide) (Or.inl rfl)) ⟨MS_47 w.1 f, a.trans w.2.1, b, SK_push w.2.2.2 c g⟩)))
theorem mp_open2 {m0 m : OV} {L s p e k d : Nat} {st : Nat → Int32} {S : List Int32} {x : Int32} (w : TS m0 L s p e k st S d m) (hL : L ≤ 400) (hS : S.length ≤ 60) (hd : d ≤ 10) (hx : x = 9 ∨ x = 12) {post : OV → Prop} (h0 : d < 10 → ∀ m', FX IT AT s m m' → TS m0 L s p e k st (x :: S) (d + 1) m' → post m') (h1 : d = 10 → ∀ m', FX IT AT s m m' → m'.1 31 = nI p → MS m0 L s (flt p 2) p e k st m' → post m') : PX9_opens m x post := by
  obtain ⟨ms, e36, e38, sk⟩ := w
  have hp : p ≤ L := (ms.2.2.2 rfl).1
  have b12 : PX9_opens_b12 post x m := by
    unfold PX9_opens_b12
    rw [e36]
    refine br_nc (fun y => ?_) (fun y => ?_)
    · have dn : ¬ d = 10 := fun z => y (by rw [z]; rfl)
      unfold PX9_opens_b30
      rw [e36, nI_1]
      rintro _ rfl _ rfl
      have f0 : Fr [36, 38] [47] [] [] m (si m 36 (nI (d + 1))) := Fr_si (by decide) Fr_refl
      refine mp_b40 (n := S.length) (show (si m 36 (nI (d + 1))).1 38 = nI S.length from e38) hS (fun m' f a b c g => ?_)
      have f' := Fr_trans f0 f
      exact h0 (by omega) m' (FX_TI f' (by decide) (Or.inl rfl)) ⟨MS_47 ms f', a.trans (by rw [si_at]), b, SK_push (m := m) sk c g⟩
    · have d10 : d = 10 := nI_inj (b := 10) (by omega) (by omega) y
      have rm := MS_rm ms
      rw [rm.2.1]
      refine mp_fails (k := 2) rm (fun m1 f1 r1 => ?_)
      rw [fst_z] at r1
      have f1' : Fr [31, 32] [] [] [] m m1 := Fr_mono f1 (by decide) (by decide) (by decide) (by decide)
      have w1 : MS m0 L s (flt p 2) p e k st m1 := MS_mv ms f1' r1 hp
      unfold PX9_opens_b30
      have e36' : m1.1 36 = nI d := (f1.1 36 (by decide)).trans e36
      rw [e36', nI_1]
      rintro _ rfl _ rfl
      have f0 : Fr [36, 38] [47] [] [] m1 (si m1 36 (nI (d + 1))) := Fr_si (by decide) Fr_refl
      refine mp_b40 (n := S.length) (show (si m1 36 (nI (d + 1))).1 38 = nI S.length from (f1.1 38 (by decide)).trans e38) hS (fun m' f a b c g => ?_)
      have f' := Fr_trans f0 f
      exact h1 d10 m' (FX_trans (FX_TI f1' (by decide) (Or.inr rfl)) (FX_TI f' (by decide) (Or.inl rfl))) ((f'.1 31 (by decide)).trans r1.2.1) (MS_47 w1 f')
  unfold PX9_opens
  rcases hx with rfl | rfl
  · exact br_t rfl b12
  · exact br_f (by decide) (br_nt rfl b12)
/-- an answered opening -/
theorem mp_ans0 {m0 m : OV} {L s p e k d n : Nat} {st : Nat → Int32} {S : List Int32} {x : Int32} (w : TS m0 L s p e k st S d m) (hS : S.length ≤ 60) (h : ¬ topS S = x) {post : OV → Prop} (hq : post m) : PX9_answers_L0 post (n + 1) x m := by
  unfold PX9_answers_L0
  exact mp_top w hS (br_nf h hq)
theorem mp_ans1 {m0 m u : OV} {L s p e k d d' n : Nat} {S : List Int32} {x y : Int32} (hs : s < 6) (he : e < 300) (w : TS m0 L s p e k (u.2.1 0) (x :: S) d m) (hS : S.length < 60) (hx : (¬ x = 9 ∧ d' = d) ∨ (x = 9 ∧ d = d' + 1)) (sr : stepR y x 0) {post : OV → Prop} (hq : ∀ m', FX IT AT s m m' → TS m0 L s p (e + 1) k ((cpU u e y).2.1 0) S d' m' → PX9_answers_L0 post n x m') : PX9_answers_L0 post (n + 1) x m := by
  unfold PX9_answers_L0
  refine mp_top w hS (br_nt rfl (br_nt w.1.2.1 (mp_entry_c hs he w.1 sr (fun m1 f1 w1 => ?_))))
  have t1 := TS_fr w f1 w1
  have e38 : m1.1 38 = nI (S.length + 1) := t1.2.2.1
  rw [e38, nI_dn1]
  rintro _ rfl _ rfl
  have e36 : (si m1 38 (nI S.length)).1 36 = nI d := t1.2.1
  rw [e36]
  have fin : ∀ x', x' = nI d' → PX9_answers_L0 post n x (si (si m1 38 (nI S.length)) 36 x') := by
    rintro _ rfl
    have f' : Fr [36, 38] [47] [] [] m1 (si (si m1 38 (nI S.length)) 36 (nI d')) := Fr_si (by decide) (Fr_si (by decide) Fr_refl)
    exact hq _ (FX_trans (FX_T f1) (FX_TI f' (by decide) (Or.inl rfl))) ⟨MS_47 w1 f', rfl, rfl, t1.2.2.2.2⟩
  rcases hx with ⟨h, rfl⟩ | ⟨h, rfl⟩
  · refine br_nf h ?_
    rintro _ rfl _ rfl
    exact fin _ (Int32.sub_zero _)
  · refine br_nt h ?_
    rintro _ rfl _ rfl
    exact fin _ nI_dn1
theorem MT_eq {B : Nat → Nat} {L p a b : Nat} (h : slen a = slen b ∧ ∀ j, j < slen a → sc a j = sc b j) : MT B L p a ↔ MT B L p b := ⟨fun x => ⟨x.1.trans h.1, fun j hj => (x.2 j (by omega)).trans (h.2 j (by omega))⟩, fun x => ⟨x.1.trans h.1.symm, fun j hj => (x.2 j (by omega)).trans (h.2 j (by omega)).symm⟩⟩
theorem sEq {a b : Nat} (h : (decide (slen a = slen b) && (List.range (slen a)).all (fun j => decide (sc a j = sc b j))) = true) : slen a = slen b ∧ ∀ j, j < slen a → sc a j = sc b j := by
  rw [Bool.and_eq_true] at h
  exact ⟨of_decide_eq_true h.1, fun j hj => of_decide_eq_true (List.all_eq_true.mp h.2 j (List.mem_range.mpr hj))⟩
theorem s_and : slen 3 = slen 22 ∧ ∀ j, j < slen 3 → sc 3 j = sc 22 j := sEq (by decide +kernel)
theorem s_or : slen 4 = slen 23 ∧ ∀ j, j < slen 4 → sc 4 j = sc 23 j := sEq (by decide +kernel)
theorem s_not : slen 5 = slen 21 ∧ ∀ j, j < slen 5 → sc 5 j = sc 21 j := sEq (by decide +kernel)
theorem s_if : slen 1 = slen 29 ∧ ∀ j, j < slen 1 → sc 1 j = sc 29 j := sEq (by decide +kernel)
theorem s_look : slen 2 = slen 28 ∧ ∀ j, j < slen 2 → sc 2 j = sc 28 j := sEq (by decide +kernel)
theorem s_lens : slen 22 = 3 ∧ slen 23 = 2 ∧ slen 21 = 3 ∧ slen 28 = 4 ∧ slen 3 = 3 ∧ slen 4 = 2 ∧ slen 5 = 3 ∧ slen 2 = 4 ∧ slen 1 = slen 29 := by decide +kernel
theorem cp_word1 {r t m : OV} {B : Nat → Nat} {L p s : Nat} {f : Int32} (tx : TX B L t m) (h1 : 1 ≤ s) (h5 : s ≤ 5) (hp : p ≤ L) (h : RD r L p f) {post : Int32 → OV → Prop} (hq : ∀ r', RD r' L (sk B L p) f → (MT B L (sk B L p) s → post 0 r') ∧ (¬ MT B L (sk B L p) s → post (-1) r')) : PX2_word r t s post := by
  refine cp_word tx (by omega) (kw := fun _ => s) (fun _ _ => by omega) (tbl1 s h1 h5) hp h (fun no r' h' => (hq r' h').2 (no 0 (by omega))) (fun k hk y r' h' => ?_)
  obtain rfl : k = 0 := by omega
  exact (hq r' h').1 y
theorem cp_takeWord {r t m : OV} {B : Nat → Nat} {L p s : Nat} {f : Int32} (tx : TX B L t m) (h1 : 1 ≤ s) (h5 : s ≤ 5) (hp : p ≤ L) (h : RD r L p f) {post : Int32 → OV → Prop} (hy : MT B L (sk B L p) s → ∀ r', RD r' L (sk B L p + slen s) f → sk B L p + slen s ≤ L → post 1 r') (hn : ¬ MT B L (sk B L p) s → ∀ r', RD r' L (sk B L p) f → post 0 r') : PX2_takeWord r t s post := by
  have sp : sk B L p ≤ L := (fw_ok (isBl B) hp).2.1
  unfold PX2_takeWord
  refine cp_word1 tx h1 h5 hp h (fun r' h' => ⟨fun y => ?_, fun n => ?_⟩)
  · refine br_nt rfl ?_
    unfold PX2_takeWord_b13
    have le : sk B L p + slen s ≤ L := by
      have := wz_le (B := B) sp
      rw [y.1] at this
      exact this
    exact br_f (by decide) ⟨by omega, cp_len (by omega) (cp_pass h' tx.1 le (fun r2 h2 => hy y r2 h2 le))⟩
  · refine br_nf (by decide) ?_
    unfold PX2_takeWord_b13
    exact br_t rfl (hn n r' h')
