/-! 85: texts: blanks, words, numbers -/
theorem si_si (v : OV) (k : Nat) (x y : Int32) : si (si v k x) k y = si v k y := by
  unfold si
  refine Prod.ext (funext fun j => ?_) rfl
  show (if j = k then y else if j = k then x else v.1 j) = if j = k then y else v.1 j
  by_cases e : j = k
  · rw [if_pos e, if_pos e]
  · rw [if_neg e, if_neg e, if_neg e]
noncomputable def fwN (P : Nat → Prop) : Nat → Nat → Nat
  | 0, p => p
  | k + 1, p => if zb (P p) = 1 then fwN P k (p + 1) else p
/-- the first place from p on that is L or hasn't P -/
noncomputable def fw (P : Nat → Prop) (L p : Nat) : Nat := fwN P (L - p) p
theorem fwN_ok (P : Nat → Prop) : ∀ k p, p ≤ fwN P k p ∧ fwN P k p ≤ p + k ∧ (∀ i, p ≤ i → i < fwN P k p → P i) ∧ (fwN P k p < p + k → ¬ P (fwN P k p))
  | 0, p => ⟨Nat.le_refl p, Nat.le_refl p, fun i a b => absurd b (by show ¬ i < p; omega), fun h => absurd h (Nat.lt_irrefl p)⟩
  | k + 1, p => by
    show p ≤ (if zb (P p) = 1 then fwN P k (p + 1) else p) ∧ (if zb (P p) = 1 then fwN P k (p + 1) else p) ≤ p + (k + 1) ∧ (∀ i, p ≤ i → i < (if zb (P p) = 1 then fwN P k (p + 1) else p) → P i) ∧ ((if zb (P p) = 1 then fwN P k (p + 1) else p) < p + (k + 1) → ¬ P (if zb (P p) = 1 then fwN P k (p + 1) else p))
    by_cases h : P p
    · rw [zb_t h, if_pos rfl]
      obtain ⟨a, b, c, d⟩ := fwN_ok P k (p + 1)
      refine ⟨by omega, by omega, fun i x y => ?_, fun x => d (by omega)⟩
      by_cases e : i = p
      · rw [e]; exact h
      · exact c i (by omega) y
    · rw [zb_f h, if_neg (by decide)]
      exact ⟨Nat.le_refl p, by omega, fun i x y => absurd y (by omega), fun _ => h⟩
theorem fw_ok (P : Nat → Prop) {L p : Nat} (hp : p ≤ L) : p ≤ fw P L p ∧ fw P L p ≤ L ∧ (∀ i, p ≤ i → i < fw P L p → P i) ∧ (fw P L p < L → ¬ P (fw P L p)) := by
  obtain ⟨a, b, c, d⟩ := fwN_ok P (L - p) p
  unfold fw
  exact ⟨a, by omega, c, fun h => d (by omega)⟩
theorem fw_self {P : Nat → Prop} {L p : Nat} (hp : p ≤ L) (h : p < L → ¬ P p) : fw P L p = p := by
  obtain ⟨a, b, c, d⟩ := fw_ok P hp
  rcases Nat.lt_or_ge p (fw P L p) with g | g
  · exact absurd (c p (Nat.le_refl p) g) (h (by omega))
  · omega
theorem fr_fw {W : Nat → Nat → Prop} (P : Nat → Prop) (L p : Nat) (hp : p ≤ L) (hx : ∀ n, W (n + 1) (fw P L p)) (hs : ∀ n i, p ≤ i → i < L → P i → W n (i + 1) → W (n + 1) i) : ∃ n, W n p := by
  obtain ⟨a, b, c, d⟩ := fw_ok P hp
  refine ⟨fw P L p - p + 1, ?_⟩
  have key : ∀ k i, p ≤ i → i + k = fw P L p → W (k + 1) i := by
    intro k
    induction k with
    | zero =>
      intro i _ hi
      have e : i = fw P L p := by omega
      rw [e]
      exact hx 0
    | succ k ih =>
      intro i h1 hi
      exact hs (k + 1) i h1 (by omega) (c i h1 (by omega)) (ih (i + 1) (by omega) (by omega))
  exact key (fw P L p - p) p (Nat.le_refl p) (by omega)
/-- the text: L bytes, as the class and as the reference keep them -/
def TX (B : Nat → Nat) (L : Nat) (t m : OV) : Prop := L ≤ 400 ∧ ∀ i, i < L → B i < 256 ∧ t.2.1 0 i = nI (B i) ∧ m.2.1 40 i = sgn8 (B i)
theorem sg_all : ∀ b, b < 256 → (sgn8 b &&& 255 = nI b) ∧ ((sgn8 b < 97) = (b < 97 ∨ 128 ≤ b)) ∧ ((122 < sgn8 b) = (122 < b ∧ b < 128)) := by
  have all : ∀ b, b < 256 → (sgn8 b &&& 255 = nI b) ∧ (sgn8 b < 97 ↔ (b < 97 ∨ 128 ≤ b)) ∧ (122 < sgn8 b ↔ (122 < b ∧ b < 128)) := by decide +kernel
  exact fun b hb => ⟨(all b hb).1, propext (all b hb).2.1, propext (all b hb).2.2⟩
theorem sg_eq : ∀ b, b < 256 → ∀ w, w < 128 → (sgn8 b = nI w ↔ b = w) := by
  have lo : ∀ b, b < 128 → sgn8 b = nI b := by decide +kernel
  have hi : ∀ b, b < 256 → 128 ≤ b → sgn8 b < 0 := by decide +kernel
  intro b hb w hw
  rcases Nat.lt_or_ge b 128 with c | c
  · rw [lo b c]
    exact nI_eq (by omega) (by omega)
  · refine ⟨fun e => ?_, fun e => by omega⟩
    have := hi b hb c
    rw [e] at this
    exact absurd this (nI_pos (by omega))
def isBl (B : Nat → Nat) (i : Nat) : Prop := B i = 32
def isLt (B : Nat → Nat) (i : Nat) : Prop := 97 ≤ B i ∧ B i ≤ 122
def isDg (B : Nat → Nat) (i : Nat) : Prop := 48 ≤ B i ∧ B i ≤ 57
noncomputable def sk (B : Nat → Nat) (L p : Nat) : Nat := fw (isBl B) L p
def chr (B : Nat → Nat) (L p : Nat) : Int32 := if p < L then nI (B p) else -1
/-- the class's reader -/
def RD (r : OV) (L p : Nat) (f : Int32) : Prop := r.1 1 = nI L ∧ r.1 2 = nI p ∧ r.1 3 = f
/-- the reference's -/
def RM (m : OV) (L p : Nat) (f : Int32) : Prop := m.1 30 = nI L ∧ m.1 31 = nI p ∧ m.1 32 = f
def flt (w : Nat) (k : Int32) : Int32 := (1 + 8 * nI w) + k
def fst0 (f g : Int32) : Int32 := if f = 0 then g else f
theorem cp_failAt {r t : OV} {L p w : Nat} {f k : Int32} (h : RD r L p f) {post : OV → Prop} (hp : ∀ r', RD r' L p (fst0 f (flt w k)) → post r') : PX2_failAt r t (nI w) k post := by
  unfold PX2_failAt
  rw [h.2.2]
  unfold fst0 at hp
  refine br_nc (fun e => ?_) (fun e => ?_)
  · rw [if_neg e] at hp
    exact hp r h
  · rw [if_pos e] at hp
    rintro _ rfl _ rfl
    exact hp _ ⟨h.1, h.2.1, rfl⟩
theorem mp_fails {m : OV} {L p w : Nat} {f k : Int32} (h : RM m L p f) {post : OV → Prop} (hp : ∀ m', Fr [32] [] [] [] m m' → RM m' L p (fst0 f (flt w k)) → post m') : PX9_fails m k (nI w) post := by
  unfold PX9_fails
  rw [h.2.2]
  unfold fst0 at hp
  refine br_nc (fun e => ?_) (fun e => ?_)
  · rw [if_neg e] at hp
    rintro _ rfl _ rfl
    exact hp _ (Fr_si (by decide) Fr_refl) ⟨h.1, h.2.1, rfl⟩
  · rw [if_pos e] at hp
    rintro _ rfl _ rfl
    exact hp _ (Fr_si (by decide) Fr_refl) ⟨h.1, h.2.1, rfl⟩
theorem cp_next {r t m : OV} {B : Nat → Nat} {L p : Nat} {f : Int32} (tx : TX B L t m) (hp : p ≤ L) (h : RD r L p f) {post : Int32 → OV → Prop} (hq : ∀ r', RD r' L (sk B L p) f → post (chr B L (sk B L p)) r') : PX2_next r t post := by
  obtain ⟨l4, tx⟩ := tx
  obtain ⟨s1, s2, s3, s4⟩ := fw_ok (isBl B) hp
  have s4 : sk B L p < L → ¬ B (sk B L p) = 32 := s4
  unfold PX2_next
  refine (fun go => go) ?_
  have e0 : r = si r 2 (nI p) := by rw [← h.2.1, si_self]
  have b38 : ∀ r', RD r' L (sk B L p) f → PX2_next_b38 t post r' := by
    intro r' h'
    have q := hq r' h'
    unfold PX2_next_b38
    rw [h'.1, h'.2.1]
    unfold chr at q
    by_cases c : sk B L p < L
    · rw [if_pos c] at q
      refine br_f (fr_nle c (by omega)) ⟨vp_in_q (by omega) (by omega), ?_⟩
      rw [nI_31 (show sk B L p < 1000 by omega), (tx _ c).2.1]
      exact q
    · rw [if_neg c] at q
      exact br_t (fr_le (by omega) (by have : sk B L p ≤ L := s2; omega)) q
  have go := fr_fw (W := fun n i => PX2_next_L0 t post n (si r 2 (nI i))) (isBl B) L p hp ?_ ?_
  · rw [← e0] at go
    exact go
  · intro n
    have b := b38 (si r 2 (nI (sk B L p))) ⟨h.1, rfl, h.2.2⟩
    show PX2_next_L0 t post (n + 1) (si r 2 (nI (sk B L p)))
    unfold PX2_next_L0
    rw [si_at, show (si r 2 (nI (sk B L p))).1 1 = nI L from h.1, nI_31 (show sk B L p < 1000 by have : sk B L p ≤ L := s2; omega)]
    by_cases c : sk B L p < L
    · refine br_f (fr_nle c (by omega)) ⟨vp_in_q (by omega) (by omega), br_nf ?_ b⟩
      rw [(tx _ c).2.1]
      exact fun e => s4 c (nI_inj (by have := (tx _ c).1; omega) (by omega) e)
    · exact br_t (fr_le (by omega) (by have : sk B L p ≤ L := s2; omega)) b
  · intro n i h1 h2 h3 hw
    unfold PX2_next_L0
    rw [si_at, show (si r 2 (nI i)).1 1 = nI L from h.1, nI_31 (show i < 1000 by omega), nI_1]
    refine br_f (fr_nle h2 (by omega)) ⟨vp_in_q (by omega) (by omega), br_nt ?_ ?_⟩
    · rw [(tx i h2).2.1, show B i = 32 from h3]
      rfl
    · rintro _ rfl _ rfl
      rw [show si (si r 2 (nI i)) 2 (nI (i + 1)) = si r 2 (nI (i + 1)) from si_si r 2 _ _]
      exact hw
theorem mp_sign {m t : OV} {B : Nat → Nat} {L p : Nat} {f : Int32} (tx : TX B L t m) (h : RM m L p f) (hp : p ≤ L + 1) {post : Int32 → Prop} (hq : post (chr B L p)) : PX9_sign m post := by
  obtain ⟨l4, tx⟩ := tx
  unfold PX9_sign
  unfold chr at hq
  rw [h.1, h.2.1]
  by_cases c : p < L
  · rw [if_pos c] at hq
    refine br_f (fr_nle c (by omega)) ⟨vp_in_q (by omega) (by omega), ?_⟩
    rw [nI_31 (show p < 1000 by omega), (tx p c).2.2, (sg_all _ (tx p c).1).1]
    exact hq
  · rw [if_neg c] at hq
    exact br_t (fr_le (by omega) (by omega)) hq
theorem TX_fr {B : Nat → Nat} {L : Nat} {t m m' : OV} {I A C L' : List Nat} (f : Fr I A C L' m m') (h : 40 ∉ A) (tx : TX B L t m) : TX B L t m' := ⟨tx.1, fun i hi => by rw [f.2.1 40 h (by decide)]; exact tx.2 i hi⟩
theorem mp_blanks {m t : OV} {B : Nat → Nat} {L p : Nat} {f : Int32} (tx : TX B L t m) (hp : p ≤ L) (h : RM m L p f) {post : OV → Prop} (hq : ∀ m', Fr [31] [] [] [] m m' → RM m' L (sk B L p) f → post m') : PX9_blanks m post := by
  obtain ⟨s1, s2, s3, s4⟩ := fw_ok (isBl B) hp
  have s4 : sk B L p < L → ¬ B (sk B L p) = 32 := s4
  have e0 : m = si m 31 (nI p) := by rw [← h.2.1, si_self]
  have l4 := tx.1
  unfold PX9_blanks
  have go := fr_fw (W := fun n i => PX9_blanks_L0 post n (si m 31 (nI i))) (isBl B) L p hp ?_ ?_
  · rw [← e0] at go
    exact go
  · intro n
    show PX9_blanks_L0 post (n + 1) (si m 31 (nI (sk B L p)))
    unfold PX9_blanks_L0
    have fr : Fr [31] [] [] [] m (si m 31 (nI (sk B L p))) := Fr_si (by decide) Fr_refl
    have rm : RM (si m 31 (nI (sk B L p))) L (sk B L p) f := ⟨h.1, rfl, h.2.2⟩
    refine mp_sign (TX_fr fr (by decide) tx) rm (by have : sk B L p ≤ L := s2; omega) (br_nf ?_ (hq _ fr rm))
    unfold chr
    by_cases c : sk B L p < L
    · rw [if_pos c]
      exact fun e => s4 c (nI_inj (by have := (tx.2 _ c).1; omega) (by omega) e)
    · rw [if_neg c]
      decide
  · intro n i h1 h2 h3 hw
    unfold PX9_blanks_L0
    have fr : Fr [31] [] [] [] m (si m 31 (nI i)) := Fr_si (by decide) Fr_refl
    refine mp_sign (L := L) (p := i) (f := f) (TX_fr fr (by decide) tx) ⟨h.1, rfl, h.2.2⟩ (by omega) (br_nt ?_ ?_)
    · unfold chr
      rw [if_pos h2, show B i = 32 from h3]
      rfl
    · rw [si_at, nI_1]
      rintro _ rfl _ rfl
      rw [show si (si m 31 (nI i)) 31 (nI (i + 1)) = si m 31 (nI (i + 1)) from si_si m 31 _ _]
      exact hw
