/-! 52: one bit, sets of bits, counts of bits -/
theorem br_if {α : Type} {c : Prop} [Decidable c] {A B : α} {post : α → Prop} {X Y : Prop} (hx : c → post A → X) (hy : ¬ c → post B → Y) (h : post (if c then A else B)) : (c → X) ∧ (¬ c → Y) := by
  refine ⟨fun e => ?_, fun e => ?_⟩
  · rw [if_pos e] at h
    exact hx e h
  · rw [if_neg e] at h
    exact hy e h
theorem br_ifn {α : Type} {c : Prop} [Decidable c] {A B : α} {post : α → Prop} {X Y : Prop} (hx : c → post A → X) (hy : ¬ c → post B → Y) (h : post (if c then A else B)) : (¬ c → Y) ∧ (c → X) := (br_if hx hy h).symm
theorem sl_self (v : OV) (k : Nat) : sl v k (v.2.2 k) = v := by
  unfold sl
  refine Prod.ext rfl (Prod.ext rfl (funext fun j => ?_))
  show (if j = k then v.2.2 k else v.2.2 j) = v.2.2 j
  by_cases e : j = k
  · rw [if_pos e, e]
  · rw [if_neg e]
theorem sa_self (v : OV) (k : Nat) : sa v k (v.2.1 k) = v := by
  unfold sa
  refine Prod.ext rfl (Prod.ext (funext fun j => ?_) rfl)
  show (if j = k then v.2.1 k else v.2.1 j) = v.2.1 j
  by_cases e : j = k
  · rw [if_pos e, e]
  · rw [if_neg e]
theorem si_self (v : OV) (k : Nat) : si v k (v.1 k) = v := by
  unfold si
  refine Prod.ext (funext fun j => ?_) rfl
  show (if j = k then v.1 k else v.1 j) = v.1 j
  by_cases e : j = k
  · rw [if_pos e, e]
  · rw [if_neg e]
theorem sl_sl (v : OV) (k : Nat) (f g : Nat → Int64) : sl (sl v k f) k g = sl v k g := by
  unfold sl
  refine Prod.ext rfl (Prod.ext rfl (funext fun j => ?_))
  show (if j = k then g else if j = k then f else v.2.2 j) = if j = k then g else v.2.2 j
  by_cases e : j = k
  · rw [if_pos e, if_pos e]
  · rw [if_neg e, if_neg e, if_neg e]
theorem sa_sa (v : OV) (k : Nat) (f g : Nat → Int32) : sa (sa v k f) k g = sa v k g := by
  unfold sa
  refine Prod.ext rfl (Prod.ext (funext fun j => ?_) rfl)
  show (if j = k then g else if j = k then f else v.2.1 j) = if j = k then g else v.2.1 j
  by_cases e : j = k
  · rw [if_pos e, if_pos e]
  · rw [if_neg e, if_neg e, if_neg e]
theorem sl_at (v : OV) (k : Nat) (f : Nat → Int64) : (sl v k f).2.2 k = f := if_pos rfl
theorem sa_at (v : OV) (k : Nat) (f : Nat → Int32) : (sa v k f).2.1 k = f := if_pos rfl
theorem si_at (v : OV) (k : Nat) (x : Int32) : (si v k x).1 k = x := if_pos rfl
theorem sa_ne (v : OV) {k j : Nat} (f : Nat → Int32) (h : j ≠ k) : (sa v k f).2.1 j = v.2.1 j := if_neg h
theorem si_ne (v : OV) {k j : Nat} (x : Int32) (h : j ≠ k) : (si v k x).1 j = v.1 j := if_neg h
theorem upd_eq (f : Nat → Int32) (k : Nat) (x : Int32) : upd f k x k = x := if_pos rfl
theorem upd_ne (f : Nat → Int32) {k j : Nat} (x : Int32) (h : j ≠ k) : upd f k x j = f j := if_neg h
theorem updL_eq (f : Nat → Int64) (k : Nat) (x : Int64) : vp_updL f k x k = x := if_pos rfl
theorem updL_ne (f : Nat → Int64) {k j : Nat} (x : Int64) (h : j ≠ k) : vp_updL f k x j = f j := if_neg h
theorem fr_le {a b : Nat} (h : a ≤ b) (hb : b < 1000) : nI a ≤ nI b := nI_le h (by omega)
theorem fr_nle {a b : Nat} (h : a < b) (hb : b < 1000) : ¬ nI b ≤ nI a := nI_ge h (by omega)
theorem and1_01 (y : Int32) : y &&& 1 = 0 ∨ y &&& 1 = 1 := by
  have k1 : ∀ i, i < 32 → i ≠ 0 → bt 1 i = false := by decide +kernel
  cases h : bt y 0 with
  | false =>
    left
    apply b_ext
    intro i hi
    rw [b_and, b_0]
    by_cases e : i = 0
    · subst e
      rw [h]
      rfl
    · rw [k1 i hi e, Bool.and_false]
  | true =>
    right
    apply b_ext
    intro i hi
    rw [b_and]
    by_cases e : i = 0
    · subst e
      rw [h]
      rfl
    · rw [k1 i hi e, Bool.and_false]
/-- bit t of x -/
def bt1 (x : Int32) (t : Nat) : Int32 := (x >>> (nI t &&& 31)) &&& 1
theorem bt1_01 (x : Int32) (t : Nat) : bt1 x t = 0 ∨ bt1 x t = 1 := and1_01 _
theorem bt1_n1 {x : Int32} {t : Nat} (h : ¬ bt1 x t = 1) : bt1 x t = 0 := (bt1_01 x t).resolve_right h
theorem bt1_0 (t : Nat) (ht : t < 32) : bt1 0 t = 0 := (by decide +kernel : ∀ t, t < 32 → bt1 0 t = 0) t ht
theorem mp_has {x : Int32} {t : Nat} {post : Int32 → Prop} (hp : post (bt1 x t)) : PX9_has x (nI t) post := by
  unfold PX9_has
  refine ⟨fun c => ?_, fun c => ?_⟩
  · rw [bt1_n1 c] at hp
    exact hp
  · rw [show bt1 x t = 1 from c] at hp
    exact hp
def bitsS (v : Int32) : Int32 := itn (fun k n => n + ((v >>> (nI k &&& 31)) &&& 1)) 16 0
theorem mp_bits {v : Int32} {post : Int32 → Prop} (hp : post (bitsS v)) : PX9_bits v post := by
  unfold PX9_bits
  refine fr_loop (fun n i b => PX9_bits_L4 post n v b (nI i)) (fun k n => n + ((v >>> (nI k &&& 31)) &&& 1)) 16 0 ?_ ?_
  · intro n
    unfold PX9_bits_L4
    exact br_t (Int32.le_refl _) hp
  · intro n i hi hw
    unfold PX9_bits_L4
    refine br_f (fr_nle (b := 16) hi (by omega)) ?_
    rintro _ rfl _ rfl
    rw [nI_1]
    exact hw
def bcS1 (a : Int32) : Int32 := a - (((a.toUInt32 >>> (((1 : Int32)).toUInt32 &&& Int32.toUInt32 31)).toInt32) &&& ((1431655765 : Int32)))
def bcS2 (x1 : Int32) : Int32 := ((x1 &&& ((858993459 : Int32))) + (((x1.toUInt32 >>> (((2 : Int32)).toUInt32 &&& Int32.toUInt32 31)).toInt32) &&& ((858993459 : Int32))))
def bcS3 (x2 : Int32) : Int32 := ((x2 + ((x2.toUInt32 >>> (((4 : Int32)).toUInt32 &&& Int32.toUInt32 31)).toInt32)) &&& ((252645135 : Int32)))
def bcS4 (x3 : Int32) : Int32 := (x3 + ((x3.toUInt32 >>> (((8 : Int32)).toUInt32 &&& Int32.toUInt32 31)).toInt32))
def bcS5 (x4 : Int32) : Int32 := (x4 + ((x4.toUInt32 >>> (((16 : Int32)).toUInt32 &&& Int32.toUInt32 31)).toInt32))
def bcS (a : Int32) : Int32 := bcS5 (bcS4 (bcS3 (bcS2 (bcS1 a)))) &&& 63
theorem bc_small : ∀ v, v < 1024 → bcS (nI v) = bitsS (nI v) := by decide +kernel
theorem cp_bitCount {v : Nat} (hv : v < 1024) {post : Int32 → Prop} (hp : post (bitsS (nI v))) : PJ6_bitCount_0f7a4 (nI v) post := by
  unfold PJ6_bitCount_0f7a4
  rintro _ rfl _ rfl _ rfl _ rfl _ rfl
  rw [← bc_small v hv] at hp
  exact hp
/-- who FOUND it, as bits -/
def fbS (f : Nat → Int32) (n : Nat) : Int32 := itn (fun q b => b ||| (if f q = -1 then 0 else (1 : Int32) <<< (nI q &&& 31))) n 0
theorem or_0 (x : Int32) : x ||| 0 = x := by
  apply b_ext
  intro i hi
  rw [b_or, b_0, Bool.or_false]
theorem fbS_4 {f : Nat → Int32} {Q : Nat} (hQ : Q ≤ 4) (h : ∀ q, Q ≤ q → q < 4 → f q = -1) : fbS f 4 = fbS f Q := by
  have key : ∀ d, Q + d ≤ 4 → fbS f (Q + d) = fbS f Q := by
    intro d
    induction d with
    | zero => intro _; rfl
    | succ d ih =>
      intro hd
      show (fbS f (Q + d)) ||| (if f (Q + d) = -1 then 0 else (1 : Int32) <<< (nI (Q + d) &&& 31)) = _
      rw [ih (by omega), if_pos (h (Q + d) (by omega) (by omega)), or_0]
  have := key (4 - Q) (by omega)
  rwa [show Q + (4 - Q) = 4 by omega] at this
theorem fbS_congr {f g : Nat → Int32} {Q : Nat} (h : ∀ q, q < Q → f q = g q) : fbS f Q = fbS g Q := itn_congr Q (fun i hi x => by rw [h i hi])
theorem fbS_small (f : Nat → Int32) : ∃ v, v < 16 ∧ fbS f 4 = nI v := by
  show ∃ v, v < 16 ∧ (((((0 : Int32) ||| (if f 0 = -1 then 0 else (1 : Int32) <<< (nI 0 &&& 31))) ||| (if f 1 = -1 then 0 else (1 : Int32) <<< (nI 1 &&& 31))) ||| (if f 2 = -1 then 0 else (1 : Int32) <<< (nI 2 &&& 31))) ||| (if f 3 = -1 then 0 else (1 : Int32) <<< (nI 3 &&& 31))) = nI v
  by_cases h0 : f 0 = -1 <;> by_cases h1 : f 1 = -1 <;> by_cases h2 : f 2 = -1 <;> by_cases h3 : f 3 = -1
  · exact ⟨0, by omega, by simp only [if_pos h0, if_pos h1, if_pos h2, if_pos h3]; decide +kernel⟩
  · exact ⟨8, by omega, by simp only [if_pos h0, if_pos h1, if_pos h2, if_neg h3]; decide +kernel⟩
  · exact ⟨4, by omega, by simp only [if_pos h0, if_pos h1, if_neg h2, if_pos h3]; decide +kernel⟩
  · exact ⟨12, by omega, by simp only [if_pos h0, if_pos h1, if_neg h2, if_neg h3]; decide +kernel⟩
  · exact ⟨2, by omega, by simp only [if_pos h0, if_neg h1, if_pos h2, if_pos h3]; decide +kernel⟩
  · exact ⟨10, by omega, by simp only [if_pos h0, if_neg h1, if_pos h2, if_neg h3]; decide +kernel⟩
  · exact ⟨6, by omega, by simp only [if_pos h0, if_neg h1, if_neg h2, if_pos h3]; decide +kernel⟩
  · exact ⟨14, by omega, by simp only [if_pos h0, if_neg h1, if_neg h2, if_neg h3]; decide +kernel⟩
  · exact ⟨1, by omega, by simp only [if_neg h0, if_pos h1, if_pos h2, if_pos h3]; decide +kernel⟩
  · exact ⟨9, by omega, by simp only [if_neg h0, if_pos h1, if_pos h2, if_neg h3]; decide +kernel⟩
  · exact ⟨5, by omega, by simp only [if_neg h0, if_pos h1, if_neg h2, if_pos h3]; decide +kernel⟩
  · exact ⟨13, by omega, by simp only [if_neg h0, if_pos h1, if_neg h2, if_neg h3]; decide +kernel⟩
  · exact ⟨3, by omega, by simp only [if_neg h0, if_neg h1, if_pos h2, if_pos h3]; decide +kernel⟩
  · exact ⟨11, by omega, by simp only [if_neg h0, if_neg h1, if_pos h2, if_neg h3]; decide +kernel⟩
  · exact ⟨7, by omega, by simp only [if_neg h0, if_neg h1, if_neg h2, if_pos h3]; decide +kernel⟩
  · exact ⟨15, by omega, by simp only [if_neg h0, if_neg h1, if_neg h2, if_neg h3]; decide +kernel⟩
theorem cp_finderBits {s : OV} {post : Int32 → Prop} (hp : post (fbS (s.2.1 6) 4)) : PX6_finderBits s post := by
  unfold PX6_finderBits
  refine fr_loop (fun n i b => PX6_finderBits_L4 s post n b (nI i)) (fun q b => b ||| (if s.2.1 6 q = -1 then 0 else (1 : Int32) <<< (nI q &&& 31))) 4 0 ?_ ?_
  · intro n
    unfold PX6_finderBits_L4
    exact br_t (Int32.le_refl _) hp
  · intro n i hi hw
    unfold PX6_finderBits_L4 PX6_finderBits_b27
    rw [nI_31 (show i < 1000 by omega)]
    refine br_f (fr_nle (b := 4) hi (by omega)) ⟨vp_in_q hi (by omega), ?_⟩
    rw [← nI_1] at hw
    refine br_ifn (post := fun z => PX6_finderBits_L4 s post n (_ ||| z) (nI i + 1)) (fun _ h => ?_) (fun _ h => ?_) hw
    · rintro _ rfl _ rfl
      exact h
    · rintro _ rfl _ rfl
      exact h
theorem cp_finders {s : OV} {post : Int32 → Prop} (hp : post (bitsS (fbS (s.2.1 6) 4))) : PX6_finders s post := by
  unfold PX6_finders
  refine cp_finderBits ?_
  obtain ⟨v, hv, e⟩ := fbS_small (s.2.1 6)
  rw [e] at hp ⊢
  exact cp_bitCount (by omega) hp
theorem mp_foundBy {m : OV} {Q : Nat} (hQ : Q ≤ 4) (e5 : m.2.1 1 5 = nI Q) {post : Int32 → Prop} (hp : post (fbS (m.2.1 11) Q)) : PX9_foundBy m post := by
  unfold PX9_foundBy
  have i5 : m.2.1 1 ((5 : Int32)).toNatClampNeg = nI Q := e5
  refine fr_loop (fun n i b => PX9_foundBy_L4 m post n b (nI i)) (fun q b => b ||| (if m.2.1 11 q = -1 then 0 else (1 : Int32) <<< (nI q &&& 31))) Q 0 ?_ ?_
  · intro n
    unfold PX9_foundBy_L4
    rw [i5]
    exact br_t (Int32.le_refl _) hp
  · intro n i hi hw
    unfold PX9_foundBy_L4 PX9_foundBy_b32
    rw [nI_31 (show i < 1000 by omega), i5]
    refine br_f (fr_nle hi (by omega)) ⟨vp_in_q (by omega) (by omega), ?_⟩
    rw [← nI_1] at hw
    refine br_if (post := fun z => PX9_foundBy_L4 m post n (_ ||| z) (nI i + 1)) (fun _ h => ?_) (fun _ h => ?_) hw
    · rintro _ rfl _ rfl
      exact h
    · rintro _ rfl _ rfl
      exact h
/-- by whom a stone was tried, as bits -/
def tbS (f : Nat → Int32) (t n : Nat) : Int32 := itn (fun q b => b ||| (bt1 (f q) t <<< (nI q &&& 31))) n 0
theorem sh_0 : ∀ q, q < 32 → (0 : Int32) <<< (nI q &&& 31) = 0 := by decide +kernel
theorem tbS_4 {f : Nat → Int32} {Q t : Nat} (hQ : Q ≤ 4) (ht : t < 32) (h : ∀ q, Q ≤ q → q < 4 → f q = 0) : tbS f t 4 = tbS f t Q := by
  have key : ∀ d, Q + d ≤ 4 → tbS f t (Q + d) = tbS f t Q := by
    intro d
    induction d with
    | zero => intro _; rfl
    | succ d ih =>
      intro hd
      show (tbS f t (Q + d)) ||| (bt1 (f (Q + d)) t <<< (nI (Q + d) &&& 31)) = _
      rw [ih (by omega), h (Q + d) (by omega) (by omega), bt1_0 t ht, sh_0 (Q + d) (by omega), or_0]
  have := key (4 - Q) (by omega)
  rwa [show Q + (4 - Q) = 4 by omega] at this
theorem tbS_congr {f g : Nat → Int32} {Q t : Nat} (h : ∀ q, q < Q → f q = g q) : tbS f t Q = tbS g t Q := itn_congr Q (fun i hi x => by rw [h i hi])
theorem cp_triedBy {s : OV} {t : Nat} {post : Int32 → Prop} (hp : post (tbS (s.2.1 8) t 4)) : PX6_triedBy s (nI t) post := by
  unfold PX6_triedBy
  refine fr_loop (fun n i b => PX6_triedBy_L4 s post n (nI t) b (nI i)) (fun q b => b ||| (bt1 (s.2.1 8 q) t <<< (nI q &&& 31))) 4 0 ?_ ?_
  · intro n
    unfold PX6_triedBy_L4
    exact br_t (Int32.le_refl _) hp
  · intro n i hi hw
    unfold PX6_triedBy_L4
    rw [nI_31 (show i < 1000 by omega)]
    refine br_f (fr_nle (b := 4) hi (by omega)) ⟨vp_in_q hi (by omega), ?_⟩
    rintro _ rfl _ rfl
    rw [nI_1]
    exact hw
theorem mp_whoTried {m : OV} {Q t : Nat} (hQ : Q ≤ 4) (e5 : m.2.1 1 5 = nI Q) {post : Int32 → Prop} (hp : post (tbS (m.2.1 13) t Q)) : PX9_whoTried m (nI t) post := by
  unfold PX9_whoTried
  have i5 : m.2.1 1 ((5 : Int32)).toNatClampNeg = nI Q := e5
  refine fr_loop (fun n i b => PX9_whoTried_L4 m post n (nI t) b (nI i)) (fun q b => b ||| (bt1 (m.2.1 13 q) t <<< (nI q &&& 31))) Q 0 ?_ ?_
  · intro n
    unfold PX9_whoTried_L4
    rw [i5]
    exact br_t (Int32.le_refl _) hp
  · intro n i hi hw
    unfold PX9_whoTried_L4 PX9_whoTried_b35
    rw [nI_31 (show i < 1000 by omega), i5]
    refine br_f (fr_nle hi (by omega)) ⟨vp_in_q (by omega) (by omega), mp_has ?_⟩
    rw [← nI_1] at hw
    rcases bt1_01 (m.2.1 13 i) t with e | e
    · rw [e] at hw ⊢
      refine br_t rfl ?_
      rintro _ rfl _ rfl
      rw [sh_0 i (by omega)] at hw
      exact hw
    · rw [e] at hw ⊢
      refine br_f (by decide) ?_
      rintro _ rfl _ rfl
      exact hw
theorem cp_finderOn {s : OV} {d : Int32} {post : Int32 → Prop} (h0 : (∀ q, q < 4 → s.2.1 6 q ≠ d) → post (-2)) (h1 : ∀ q, q < 4 → s.2.1 6 q = d → (∀ j, j < q → s.2.1 6 j ≠ d) → post (nI q)) : PX6_finderOn s d post := by
  unfold PX6_finderOn
  refine fr_find (fun n i => PX6_finderOn_L2 s post n d (nI i)) 4 (fun k => s.2.1 6 k = d) ?_ ?_ ?_
  · intro hn n
    unfold PX6_finderOn_L2
    exact br_t (Int32.le_refl _) (h0 hn)
  · intro i hi hj hq n
    unfold PX6_finderOn_L2
    rw [nI_31 (show i < 1000 by omega)]
    exact br_f (fr_nle (b := 4) hi (by omega)) ⟨vp_in_q (by omega) (by omega), br_nt hq (h1 i hi hq hj)⟩
  · intro n i hi hq hw
    unfold PX6_finderOn_L2
    rw [nI_31 (show i < 1000 by omega)]
    refine br_f (fr_nle (b := 4) hi (by omega)) ⟨vp_in_q (by omega) (by omega), br_nf hq ?_⟩
    rintro _ rfl
    rw [nI_1]
    exact hw
theorem cp_firstWorn {s h : OV} {S : Nat} (hS : S ≤ 10) (e4 : h.1 4 = nI S) {post : Int32 → Prop} (h0 : (∀ t, t < S → s.2.1 3 t < h.1 2) → post (-1)) (h1 : ∀ t, t < S → ¬ s.2.1 3 t < h.1 2 → (∀ j, j < t → s.2.1 3 j < h.1 2) → post (nI t)) : PX6_firstWorn s h post := by
  unfold PX6_firstWorn
  refine fr_find (fun n i => PX6_firstWorn_L2 s h post n (nI i)) S (fun k => ¬ s.2.1 3 k < h.1 2) ?_ ?_ ?_
  · intro hn n
    unfold PX6_firstWorn_L2
    rw [e4]
    exact br_t (Int32.le_refl _) (h0 (fun t ht => Classical.not_not.mp (hn t ht)))
  · intro i hi hj hq n
    unfold PX6_firstWorn_L2
    rw [nI_31 (show i < 1000 by omega), e4]
    exact br_f (fr_nle hi (by omega)) ⟨vp_in_q (by omega) (by omega), br_f hq (h1 i hi hq (fun j hk => Classical.not_not.mp (hj j hk)))⟩
  · intro n i hi hq hw
    unfold PX6_firstWorn_L2
    rw [nI_31 (show i < 1000 by omega), e4]
    refine br_f (fr_nle hi (by omega)) ⟨vp_in_q (by omega) (by omega), br_t (Classical.not_not.mp hq) ?_⟩
    rintro _ rfl
    rw [nI_1]
    exact hw
