/-! rows on bits, shifts and unsigned numbers, to paste: each family out of a closed proof of our own, whole with what it rests on; each by itself clean at Lean in its own claim (generation 39, form 5). Take a family whole -/
/-! ===== Int32 by its bits: bt x i ===== -/
def bt (x : Int32) (i : Nat) : Bool := x.toBitVec.getLsbD i
theorem b_ext {x y : Int32} (h : ∀ i, i < 32 → bt x i = bt y i) : x = y := Int32.toBitVec_inj.mp (BitVec.eq_of_getLsbD_eq (fun i hi => h i hi))
theorem b_or (x y : Int32) (i : Nat) : bt (x ||| y) i = (bt x i || bt y i) := by unfold bt; rw [Int32.toBitVec_or, BitVec.getLsbD_or]
theorem b_and (x y : Int32) (i : Nat) : bt (x &&& y) i = (bt x i && bt y i) := by unfold bt; rw [Int32.toBitVec_and, BitVec.getLsbD_and]
theorem b_xor (x y : Int32) (i : Nat) : bt (x ^^^ y) i = (bt x i ^^ bt y i) := by unfold bt; rw [Int32.toBitVec_xor, BitVec.getLsbD_xor]
theorem b_big {x : Int32} {i : Nat} (h : 32 ≤ i) : bt x i = false := BitVec.getLsbD_of_ge _ _ h
theorem b_255 (i : Nat) : bt 255 i = decide (i < 8) := by
  rcases Nat.lt_or_ge i 32 with h | h
  · exact (by decide +kernel : ∀ i, i < 32 → bt 255 i = decide (i < 8)) i h
  · rw [b_big h, decide_eq_false (by omega)]
theorem b_65535 (i : Nat) : bt 65535 i = decide (i < 16) := by
  rcases Nat.lt_or_ge i 32 with h | h
  · exact (by decide +kernel : ∀ i, i < 32 → bt 65535 i = decide (i < 16)) i h
  · rw [b_big h, decide_eq_false (by omega)]
theorem b_m1 : ∀ i, i < 32 → bt (-1) i = true := by decide +kernel
theorem b_0 (i : Nat) : bt 0 i = false := BitVec.getLsbD_zero
theorem s_l : ∀ n, n < 32 → ((nI n &&& 31).toBitVec.smod 32).toNat = n := by decide +kernel
theorem s_u : ∀ n, n < 32 → (((nI n).toUInt32 &&& Int32.toUInt32 31).toBitVec % 32).toNat = n := by decide +kernel
theorem b_shl (n : Nat) (hn : n < 32) (x : Int32) {i : Nat} (hi : i < 32) : bt (x <<< (nI n &&& 31)) i = (decide (n ≤ i) && bt x (i - n)) := by
  unfold bt
  rw [Int32.toBitVec_shiftLeft]
  show (x.toBitVec <<< ((nI n &&& 31).toBitVec.smod 32).toNat).getLsbD i = _
  rw [s_l n hn, BitVec.getLsbD_shiftLeft]
  rcases Nat.lt_or_ge i n with h | h
  · simp [h, Nat.not_le.mpr h]
  · simp [hi, h, Nat.not_lt.mpr h]
theorem b_ushr (n : Nat) (hn : n < 32) (x : Int32) (i : Nat) : bt ((x.toUInt32 >>> ((nI n).toUInt32 &&& Int32.toUInt32 31)).toInt32) i = bt x (n + i) := by
  show (x.toUInt32 >>> ((nI n).toUInt32 &&& Int32.toUInt32 31)).toBitVec.getLsbD i = x.toUInt32.toBitVec.getLsbD (n + i)
  rw [UInt32.toBitVec_shiftRight]
  show (x.toUInt32.toBitVec >>> (((nI n).toUInt32 &&& Int32.toUInt32 31).toBitVec % 32).toNat).getLsbD i = _
  rw [s_u n hn, BitVec.getLsbD_ushiftRight]
theorem b_sshr (n : Nat) (hn : n < 32) (x : Int32) {i : Nat} (hi : i < 32) : bt (x >>> (nI n &&& 31)) i = if n + i < 32 then bt x (n + i) else bt x 31 := by
  unfold bt
  rw [Int32.toBitVec_shiftRight]
  show (x.toBitVec.sshiftRight ((nI n &&& 31).toBitVec.smod 32).toNat).getLsbD i = _
  rw [s_l n hn, BitVec.getLsbD_sshiftRight, BitVec.msb_eq_getLsbD_last]
  simp [hi]
theorem b_shl8 (x : Int32) {i : Nat} (hi : i < 32) : bt (x <<< ((8 : Int32) &&& 31)) i = (decide (8 ≤ i) && bt x (i - 8)) := b_shl 8 (by omega) x hi
theorem b_shl16 (x : Int32) {i : Nat} (hi : i < 32) : bt (x <<< ((16 : Int32) &&& 31)) i = (decide (16 ≤ i) && bt x (i - 16)) := b_shl 16 (by omega) x hi
theorem b_shl24 (x : Int32) {i : Nat} (hi : i < 32) : bt (x <<< ((24 : Int32) &&& 31)) i = (decide (24 ≤ i) && bt x (i - 24)) := b_shl 24 (by omega) x hi
theorem b_sshr8 (x : Int32) {i : Nat} (hi : i < 32) : bt (x >>> ((8 : Int32) &&& 31)) i = if 8 + i < 32 then bt x (8 + i) else bt x 31 := b_sshr 8 (by omega) x hi
/-! ===== nI under and, xor, >>>, one bit, 65535 ===== -/
/-! PURE PART: helpers -/
theorem br_nt {c A B : Prop} (h : c) (b : B) : (¬ c → A) ∧ (c → B) := ⟨fun n => absurd h n, fun _ => b⟩
theorem br_nf {c A B : Prop} (h : ¬ c) (a : A) : (¬ c → A) ∧ (c → B) := ⟨fun _ => a, fun y => absurd y h⟩
theorem br_nc {c A B : Prop} (a : ¬ c → A) (b : c → B) : (¬ c → A) ∧ (c → B) := ⟨a, b⟩
/-- f over 0 .. n-1 -/
def itn {σ : Type} (f : Nat → σ → σ) : Nat → σ → σ
  | 0, s => s
  | n + 1, s => f n (itn f n s)
theorem fr_loop {σ : Type} (W : Nat → Nat → σ → Prop) (f : Nat → σ → σ) (S : Nat) (s0 : σ) (hx : ∀ n, W (n + 1) S (itn f S s0)) (hs : ∀ n i, i < S → W n (i + 1) (f i (itn f i s0)) → W (n + 1) i (itn f i s0)) : ∃ n, W n 0 s0 := by
  refine ⟨S + 1, ?_⟩
  have key : ∀ k i, i + k = S → W (k + 1) i (itn f i s0) := by
    intro k
    induction k with
    | zero =>
      intro i hi
      have e : i = S := by omega
      subst e
      exact hx 0
    | succ k ih =>
      intro i hi
      exact hs (k + 1) i (by omega) (ih (i + 1) (by omega))
  exact key S 0 (by omega)
/-- a search through 0 .. S-1 -/
theorem fr_find (W : Nat → Nat → Prop) (S : Nat) (p : Nat → Prop) (hx : (∀ j, j < S → ¬ p j) → ∀ n, W (n + 1) S) (hh : ∀ i, i < S → (∀ j, j < i → ¬ p j) → p i → ∀ n, W (n + 1) i) (hs : ∀ n i, i < S → ¬ p i → W n (i + 1) → W (n + 1) i) : ∃ n, W n 0 := by
  refine ⟨S + 1, ?_⟩
  have key : ∀ k i, i + k = S → (∀ j, j < i → ¬ p j) → W (k + 1) i := by
    intro k
    induction k with
    | zero =>
      intro i hi hp
      have e : i = S := by omega
      subst e
      exact hx hp 0
    | succ k ih =>
      intro i hi hp
      rcases Classical.em (p i) with h | h
      · exact hh i (by omega) hp h (k + 1)
      · refine hs (k + 1) i (by omega) h (ih (i + 1) (by omega) (fun j hj => ?_))
        by_cases e : j = i
        · rw [e]; exact h
        · exact hp j (by omega)
  exact key S 0 (by omega) (fun j hj => absurd hj (Nat.not_lt_zero j))
theorem itn_congr {σ : Type} {f g : Nat → σ → σ} {s : σ} : ∀ n, (∀ i, i < n → ∀ x, f i x = g i x) → itn f n s = itn g n s
  | 0, _ => rfl
  | n + 1, h => by
    show f n (itn f n s) = g n (itn g n s)
    rw [itn_congr n (fun i hi => h i (by omega)), h n (by omega)]
/-- a number known to be 0 .. n -/
def nn (x : Int32) : Nat := x.toNatClampNeg
theorem nI_31 {a : Nat} (h : a < 1000) : (nI a).toNatClampNeg = a := nI_clamp (by omega)
theorem vp_in_q {a n : Nat} (h : a < n) (hn : n ≤ 5000) : vp_in (nI a) n := vp_in_nI h (by omega)
theorem nI_inj {a b : Nat} (ha : a < 1000) (hb : b < 1000) (h : nI a = nI b) : a = b := (nI_eq (by omega) (by omega)).mp h
/-- 0 or 1, of a statement -/
noncomputable def zb (p : Prop) : Int32 := by
  classical
  exact if p then 1 else 0
theorem zb_t {p : Prop} (h : p) : zb p = 1 := by
  unfold zb
  exact if_pos h
theorem zb_f {p : Prop} (h : ¬ p) : zb p = 0 := by
  unfold zb
  exact if_neg h
theorem zb_0 {p : Prop} : zb p = 0 ↔ ¬ p := by
  by_cases h : p
  · rw [zb_t h]
    exact ⟨fun e => absurd e (by decide), fun n => absurd h n⟩
  · rw [zb_f h]
    exact ⟨fun _ => h, fun _ => rfl⟩
theorem zb_1 {p : Prop} : zb p = 1 ↔ p := by
  by_cases h : p
  · rw [zb_t h]
    exact ⟨fun _ => h, fun _ => rfl⟩
  · rw [zb_f h]
    exact ⟨fun e => absurd e (by decide), fun n => absurd n h⟩
theorem zb_iff {p q : Prop} (h : p ↔ q) : zb p = zb q := by rw [propext h]
