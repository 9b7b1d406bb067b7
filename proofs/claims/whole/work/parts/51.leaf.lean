/-! the reference's 'in', and places: isIx x n: x is one of 0 .. n-1 -/
def isIx (x : Int32) (n : Nat) : Prop := ∃ t, t < n ∧ x = nI t
theorem isIx_iff {x : Int32} {n : Nat} (hn : n < 5000) : isIx x n ↔ (0 ≤ x ∧ x < nI n) := by
  constructor
  · rintro ⟨t, ht, rfl⟩
    exact ⟨nI_pos' (by omega), nI_lt ht (by omega)⟩
  · rintro ⟨h1, h2⟩
    obtain ⟨t, ht, rfl⟩ := nI_of (Int32.not_lt.mpr h1)
    exact ⟨t, (nI_ltI ht (by omega)).mp h2, rfl⟩
theorem isIx_no {x : Int32} {n : Nat} (hn : n < 5000) (h : ¬ isIx x n) : x < 0 ∨ nI n ≤ x := by
  rcases Classical.em (x < 0) with h1 | h1
  · exact Or.inl h1
  · refine Or.inr (Int32.not_lt.mp (fun h2 => h ((isIx_iff hn).mpr ⟨Int32.not_lt.mp h1, h2⟩)))
theorem sp_in {x lo hi : Int64} {post : Int32 → Prop} (h : post (zb (lo ≤ x ∧ x ≤ hi))) : PX9_in x lo hi post := by
  unfold PX9_in
  refine br_c (fun c => ?_) (fun c => br_c (fun d => ?_) (fun d => ?_))
  · rw [zb_f] at h
    · exact h
    · rw [lg_cmp_lt] at c
      exact fun q => absurd c (Int64.not_lt.mpr q.1)
  · rw [zb_f] at h
    · exact h
    · rw [lg_cmp_gt] at d
      exact fun q => absurd d (Int64.not_lt.mpr q.2)
  · rw [zb_t] at h
    · exact h
    · rw [lg_cmp_lt] at c
      rw [lg_cmp_gt] at d
      exact ⟨Int64.not_lt.mp c, Int64.not_lt.mp d⟩
theorem i64_le {x y : Int32} : x.toInt64 ≤ y.toInt64 ↔ x ≤ y := by
  rw [Int64.le_iff_toInt_le, Int32.le_iff_toInt_le, Int32.toInt_toInt64, Int32.toInt_toInt64]
theorem sp_in32 {x lo hi : Int32} {post : Int32 → Prop} {L H : Int64} (hL : L = lo.toInt64) (hH : H = hi.toInt64) (h : post (zb (lo ≤ x ∧ x ≤ hi))) : PX9_in x.toInt64 L H post := by
  subst hL
  subst hH
  refine sp_in ?_
  rw [zb_iff (show (lo.toInt64 ≤ x.toInt64 ∧ x.toInt64 ≤ hi.toInt64) ↔ (lo ≤ x ∧ x ≤ hi) by rw [i64_le, i64_le])]
  exact h
theorem nI_sub1 {n : Nat} (hn : n < 5000) {x : Int32} : x ≤ nI n - 1 ↔ x < nI n := by
  rw [Int32.le_iff_toInt_le, Int32.lt_iff_toInt_lt]
  have e : (nI n - 1).toInt = (n : Int) - 1 := pk_sub_toInt (a := n) (b := 1) (by omega) (by omega)
  rw [e, nI_toInt (by omega)]
  omega
theorem sp_inN {x : Int32} {n : Nat} (hn : n < 5000) {post : Int32 → Prop} (h : post (zb (isIx x n))) : PX9_in x.toInt64 (0 : Int64) ((nI n - (1 : Int32)).toInt64) post := by
  refine sp_in32 (lo := 0) (by decide) rfl ?_
  rw [zb_iff (show ((0 : Int32) ≤ x ∧ x ≤ nI n - 1) ↔ isIx x n by rw [isIx_iff hn, nI_sub1 hn])]
  exact h
/-- the numbers of the HILL in force, in the reference -/
def Rsc4 (m : OV) (S T Q K : Nat) : Prop := m.2.1 1 3 = nI S ∧ m.2.1 1 4 = nI T ∧ m.2.1 1 5 = nI Q ∧ m.2.1 1 6 = nI K
def Lim (S T Q K : Nat) : Prop := S ≤ 10 ∧ T ≤ 6 ∧ Q ≤ 4 ∧ K ≤ 8
def Hok (h : OV) (S T Q K : Nat) : Prop := Lim S T Q K ∧ h.1 4 = nI S ∧ h.1 9 = nI T ∧ h.1 11 = nI Q ∧ h.1 16 = nI K
theorem mp_isStone {m : OV} {S : Nat} (hS : S ≤ 10) (h3 : m.2.1 1 3 = nI S) {x : Int32} {post : Int32 → Prop} (h : post (zb (isIx x S))) : PX9_isStone m x post := by
  unfold PX9_isStone
  show PX9_in x.toInt64 0 ((m.2.1 1 3 - 1).toInt64) (fun r1 => post r1)
  rw [h3]
  exact sp_inN (by omega) h
theorem mp_isSeeker {m : OV} {Q : Nat} (hQ : Q ≤ 4) (h5 : m.2.1 1 5 = nI Q) {x : Int32} {post : Int32 → Prop} (h : post (zb (isIx x Q))) : PX9_isSeeker m x post := by
  unfold PX9_isSeeker
  show PX9_in x.toInt64 0 ((m.2.1 1 5 - 1).toInt64) (fun r1 => post r1)
  rw [h5]
  exact sp_inN (by omega) h
theorem cp_isIx {x y : Int32} {n : Nat} (hn : n ≤ 400) (hy : y = nI n) {post : Int32 → Prop} (h : post (zb (isIx x n))) : (x < 0 → post 0) ∧ (¬ x < 0 → ((y ≤ x → post 0) ∧ (¬ y ≤ x → post 1))) := by
  subst hy
  refine br_c (fun c => ?_) (fun c => br_c (fun d => ?_) (fun d => ?_))
  · rw [zb_f (fun q => by rw [isIx_iff (by omega)] at q; exact absurd c (Int32.not_lt.mpr q.1))] at h
    exact h
  · rw [zb_f (fun q => by rw [isIx_iff (by omega)] at q; exact absurd q.2 (Int32.not_lt.mpr d))] at h
    exact h
  · rw [zb_t ((isIx_iff (by omega)).mpr ⟨Int32.not_lt.mp c, Int32.not_le.mp d⟩)] at h
    exact h
theorem cp_hasStone {t c h : OV} {S : Nat} (hS : S ≤ 10) (h4 : h.1 4 = nI S) {x : Int32} {post : Int32 → Prop} (hp : post (zb (isIx x S))) : PX8_hasStone t c h x post := by
  unfold PX8_hasStone
  exact cp_isIx (by omega) h4 hp
theorem cp_hasSeeker {t c h : OV} {Q : Nat} (hQ : Q ≤ 4) (h5 : h.1 11 = nI Q) {x : Int32} {post : Int32 → Prop} (hp : post (zb (isIx x Q))) : PX8_hasSeeker t c h x post := by
  unfold PX8_hasSeeker
  exact cp_isIx (by omega) h5 hp
/-- MINUTES -/
def minS (h s : OV) (q t : Nat) : Int32 := if (1 : Int32) < (h.2.1 6 t - h.2.1 12 q) - (s.2.1 3 t) / 4 then (h.2.1 6 t - h.2.1 12 q) - (s.2.1 3 t) / 4 else 1
theorem cp_minutes {h s : OV} {q t : Nat} (hq : q < 4) (ht : t < 10) {post : Int32 → Prop} (hp : post (minS h s q t)) : PX0_minutes h s (nI q) (nI t) post := by
  unfold PX0_minutes
  rw [nI_31 (show q < 1000 by omega), nI_31 (show t < 1000 by omega)]
  exact ⟨vp_in_q ht (by omega), vp_in_q hq (by omega), vp_in_q ht (by omega), hp⟩
theorem mp_minutes {m h s : OV} {q t : Nat} (hq : q < 4) (ht : t < 10) (e3 : m.2.1 3 t = h.2.1 6 t) (e7 : m.2.1 7 q = h.2.1 12 q) (e5 : m.2.1 5 t = s.2.1 3 t) {post : Int32 → Prop} (hp : post (minS h s q t)) : PX9_minutesOf m (nI q) (nI t) post := by
  unfold PX9_minutesOf
  rw [nI_31 (show q < 1000 by omega), nI_31 (show t < 1000 by omega), e3, e7, e5]
  refine ⟨vp_in_q ht (by omega), vp_in_q hq (by omega), vp_in_q ht (by omega), ?_⟩
  rintro _ rfl
  unfold minS at hp
  refine br_c (fun c => ?_) (fun c => ?_)
  · rw [if_neg (Int32.not_lt.mpr c)] at hp
    exact hp
  · rw [if_pos (Int32.not_le.mp c)] at hp
    exact hp
/-- told WALKERS -/
def wlkS (h : OV) (K : Nat) (d : Int32) : Prop := ∃ k, k < K ∧ h.2.1 17 k = d
theorem cp_walkersCome {h : OV} {K : Nat} (hK : K ≤ 8) (e : h.1 16 = nI K) {d : Int32} {post : Int32 → Prop} (hp : post (zb (wlkS h K d))) : PX0_walkersCome h d post := by
  unfold PX0_walkersCome
  refine fr_find (fun n i => PX0_walkersCome_L2 h post n d (nI i)) K (fun k => h.2.1 17 k = d) ?_ ?_ ?_
  · intro hn n
    unfold PX0_walkersCome_L2
    rw [e]
    refine br_t (Int32.le_refl _) ?_
    rw [zb_f (fun ⟨k, hk, q⟩ => hn k hk q)] at hp
    exact hp
  · intro i hi _ hq n
    unfold PX0_walkersCome_L2
    rw [e, nI_31 (show i < 1000 by omega)]
    refine br_f (nI_ge hi (by omega)) ⟨vp_in_q (by omega) (by omega), br_nt hq ?_⟩
    rw [zb_t ⟨i, hi, hq⟩] at hp
    exact hp
  · intro n i hi hq hw
    unfold PX0_walkersCome_L2
    rw [e, nI_31 (show i < 1000 by omega)]
    refine br_f (nI_ge hi (by omega)) ⟨vp_in_q (by omega) (by omega), br_nf hq ?_⟩
    rintro _ rfl
    rw [nI_1]
    exact hw
/-- whether walkers come in the reference: drawn ones or told ones -/
theorem mp_doWalk {m h : OV} {K : Nat} (hK : K ≤ 8) (e6 : m.2.1 1 6 = nI K) (e14 : ∀ k, k < K → m.2.1 14 k = h.2.1 17 k) (e50 : m.1 50 = 0 ∨ m.1 50 = 1) {d : Int32} {post : Int32 → Prop} (hp : post (zb (wlkS h K d ∨ m.1 50 = 1))) : PX9_doWalk m d post := by
  unfold PX9_doWalk
  have i6 : m.2.1 1 ((6 : Int32)).toNatClampNeg = nI K := e6
  refine fr_find (fun n i => PX9_doWalk_L2 m post n d (nI i)) K (fun k => h.2.1 17 k = d) ?_ ?_ ?_
  · intro hn n
    unfold PX9_doWalk_L2
    rw [i6]
    refine br_t (Int32.le_refl _) ⟨e50, ?_⟩
    rcases e50 with c | c
    · rw [zb_f (fun q => by
        rcases q with ⟨k, hk, q⟩ | q
        · exact hn k hk q
        · rw [c] at q
          exact absurd q (by decide))] at hp
      rw [c]
      exact hp
    · rw [zb_t (Or.inr c)] at hp
      rw [c]
      exact hp
  · intro i hi _ hq n
    unfold PX9_doWalk_L2
    rw [i6, nI_31 (show i < 1000 by omega), e14 i hi]
    refine br_f (nI_ge hi (by omega)) ⟨vp_in_q (by omega) (by omega), br_nt hq ?_⟩
    rw [zb_t (Or.inl ⟨i, hi, hq⟩)] at hp
    exact hp
  · intro n i hi hq hw
    unfold PX9_doWalk_L2
    rw [i6, nI_31 (show i < 1000 by omega), e14 i hi]
    refine br_f (nI_ge hi (by omega)) ⟨vp_in_q (by omega) (by omega), br_nf hq ?_⟩
    rintro _ rfl
    rw [nI_1]
    exact hw
