/-! 89: a clause of a hill -/
noncomputable def ne (B : Nat → Nat) (L p : Nat) : Nat := sk B L p + dgn B L (sk B L p)
noncomputable def nv (B : Nat → Nat) (L p : Nat) : Int32 := nmV B L (sk B L p)
noncomputable def nk (B : Nat → Nat) (L p : Nat) (lo hi : Int32) : Int32 := nmK B L (sk B L p) lo hi
theorem ne_le {B : Nat → Nat} {L p : Nat} (hp : p ≤ L) : ne B L p ≤ L := by
  have sp : sk B L p ≤ L := (fw_ok (isBl B) hp).2.1
  have := fw_ok (isDg B) sp
  unfold ne dgn
  omega
theorem cp_num {r t m : OV} {B : Nat → Nat} {L p : Nat} {f lo hi : Int32} (tx : TX B L t m) (hp : p ≤ L) (h : RD r L p f) {post : Int32 → OV → Prop} (hq : ∀ r', RD r' L (ne B L p) (fst0 f (nk B L p lo hi)) → post (nv B L p) r') : PX2_number r t lo hi post := cp_number tx hp h hq
theorem mp_num {m t : OV} {B : Nat → Nat} {L p : Nat} {lo hi f : Int32} (tx : TX B L t m) (hp : p ≤ L) (e32 : m.1 32 = f) (h : f = 0 → RM m L p 0) (h30 : m.1 30 = nI L) (h31 : ∃ q, q ≤ L ∧ m.1 31 = nI q) {post : Int32 → OV → Prop} (hq : ∀ v m', Fr [31, 32] [] [] [] m m' → m'.1 32 = fst0 f (nk B L p lo hi) → (fst0 f (nk B L p lo hi) = 0 → v = nv B L p ∧ RM m' L (ne B L p) 0) → m'.1 30 = nI L → (∃ q, q ≤ L ∧ m'.1 31 = nI q) → post v m') : PX9_amount m lo hi post := by
  by_cases e : f = 0
  · subst e
    have e0 : fst0 0 (nk B L p lo hi) = nk B L p lo hi := if_pos rfl
    rw [e0] at hq
    exact mp_amount tx hp (h rfl) (fun _ m' f' r' => hq _ m' f' r'.2.2 (fun z => ⟨rfl, r'.1, r'.2.1, r'.2.2.trans z⟩) r'.1 ⟨_, ne_le hp, r'.2.1⟩) (fun y => absurd rfl y)
  · obtain ⟨q, hq1, hq2⟩ := h31
    have e0 : fst0 f (nk B L p lo hi) = f := if_neg e
    rw [e0] at hq
    exact mp_amount tx hq1 ⟨h30, hq2, e32⟩ (fun y => absurd y e) (fun _ m' f' r' => hq 0 m' f' r'.2.2 (fun y => absurd y e) r'.1 ⟨_, (fw_ok (isBl B) hq1).2.1, r'.2.1⟩)
theorem nk_in {B : Nat → Nat} {L p : Nat} (hl : L ≤ 400) (hp : p ≤ L) {lo hi : Int32} (h : nk B L p lo hi = 0) : lo ≤ nv B L p ∧ nv B L p ≤ hi := by
  have sp : sk B L p ≤ L := (fw_ok (isBl B) hp).2.1
  unfold nk nmK at h
  by_cases z : dgn B L (sk B L p) = 0
  · rw [if_pos z] at h
    exact absurd h (flt_ne (k := 0) (by omega) (by omega))
  · rw [if_neg z] at h
    by_cases g : 5 < dgn B L (sk B L p) ∨ nmV B L (sk B L p) < lo ∨ hi < nmV B L (sk B L p)
    · rw [if_pos g] at h
      exact absurd h (flt_ne (k := 1) (by omega) (by omega))
    · exact ⟨Int32.not_lt.mp (fun u => g (Or.inr (Or.inl u))), Int32.not_lt.mp (fun u => g (Or.inr (Or.inr u)))⟩
theorem fst_0 {f g : Int32} (h : fst0 f g = 0) : f = 0 ∧ g = 0 := by
  unfold fst0 at h
  by_cases e : f = 0
  · rw [if_pos e] at h
    exact ⟨e, h⟩
  · rw [if_neg e] at h
    exact absurd h e
theorem fst_n {f g : Int32} (h : ¬ f = 0) : fst0 f g = f := if_neg h
theorem fst_z (g : Int32) : fst0 0 g = g := if_pos rfl
/-- faults, the place behind and the hill after the numbers of a clause of the kind k (hill stone tin thing seeker walker) -/
noncomputable def hF (B : Nat → Nat) (L k : Nat) (h : OV) (p : Nat) : Int32 := match k with
  | 0 => fst0 (fst0 (nk B L p 0 99) (nk B L (ne B L p) 1 50)) (nk B L (ne B L (ne B L p)) 0 99)
  | 1 => fst0 (fst0 (nk B L p 0 99) (nk B L (ne B L p) 1 20)) (nk B L (ne B L (ne B L p)) 0 9)
  | 2 => nk B L p 0 (h.1 4 - 1)
  | 3 => nk B L p 0 99
  | 4 => fst0 (fst0 (fst0 (nk B L p 0 9) (nk B L (ne B L p) 1 99)) (nk B L (ne B L (ne B L p)) 0 99)) (nk B L (ne B L (ne B L (ne B L p))) 0 2)
  | _ => nk B L p 0 99
noncomputable def hP (B : Nat → Nat) (L k : Nat) (p : Nat) : Nat := match k with
  | 0 => ne B L (ne B L (ne B L p))
  | 1 => ne B L (ne B L (ne B L p))
  | 2 => ne B L p
  | 3 => ne B L p
  | 4 => ne B L (ne B L (ne B L (ne B L p)))
  | _ => ne B L p
noncomputable def hH (B : Nat → Nat) (L k : Nat) (h : OV) (p : Nat) : OV := match k with
  | 0 => si (si (si h 1 (nv B L p)) 2 (nv B L (ne B L p))) 3 (nv B L (ne B L (ne B L p)))
  | 1 => si (sa (sa (sa h 5 (upd (h.2.1 5) (h.1 4).toNatClampNeg (nv B L p))) 6 (upd (h.2.1 6) (h.1 4).toNatClampNeg (nv B L (ne B L p)))) 7 (upd (h.2.1 7) (h.1 4).toNatClampNeg (nv B L (ne B L (ne B L p))))) 4 (h.1 4 + 1)
  | 2 => si h 8 (nv B L p)
  | 3 => si (sa h 10 (upd (h.2.1 10) (h.1 9).toNatClampNeg (nv B L p))) 9 (h.1 9 + 1)
  | 4 => si (sa (sa (sa (sa h 12 (upd (h.2.1 12) (h.1 11).toNatClampNeg (nv B L p))) 13 (upd (h.2.1 13) (h.1 11).toNatClampNeg (nv B L (ne B L p)))) 14 (upd (h.2.1 14) (h.1 11).toNatClampNeg (nv B L (ne B L (ne B L p))))) 15 (upd (h.2.1 15) (h.1 11).toNatClampNeg (nv B L (ne B L (ne B L (ne B L p)))))) 11 (h.1 11 + 1)
  | _ => si (sa h 17 (upd (h.2.1 17) (h.1 16).toNatClampNeg (nv B L p))) 16 (h.1 16 + 1)
/-- whether there is no place for another of the kind -/
def fulC (k S T Q K : Nat) : Prop := (k = 1 ∧ S = 10) ∨ (k = 3 ∧ T = 6) ∨ (k = 4 ∧ Q = 4) ∨ (k = 5 ∧ K = 8)
/-- the counts of the hill that is being told -/
def HC (h : OV) (S T Q K : Nat) : Prop := S ≤ 10 ∧ T ≤ 6 ∧ Q ≤ 4 ∧ K ≤ 8 ∧ h.1 4 = nI S ∧ h.1 9 = nI T ∧ h.1 11 = nI Q ∧ h.1 16 = nI K
theorem hP_le {B : Nat → Nat} {L k p : Nat} (hp : p ≤ L) : hP B L k p ≤ L := by
  have h1 := ne_le (B := B) hp
  have h2 := ne_le (B := B) h1
  have h3 := ne_le (B := B) h2
  have h4 := ne_le (B := B) h3
  unfold hP
  split <;> assumption
theorem cp_readNumbers {g r t m h : OV} {B : Nat → Nat} {L p k S T Q K : Nat} (tx : TX B L t m) (hk : k < 6) (hp : p ≤ L) (rd : RD r L p 0) (hc : HC h S T Q K) (nf : ¬ fulC k S T Q K) {post : OV → OV → Prop} (hq : ∀ r', RD r' L (hP B L k p) (hF B L k h p) → post r' (hH B L k h p)) : PX1_readNumbers g r t h (nI k) post := by
  obtain ⟨l1, l2, l3, l4, e4, e9, e11, e16⟩ := hc
  have p1 := ne_le (B := B) hp
  have p2 := ne_le (B := B) p1
  have p3 := ne_le (B := B) p2
  unfold PX1_readNumbers
  have kc : k = 0 ∨ k = 1 ∨ k = 2 ∨ k = 3 ∨ k = 4 ∨ k = 5 := by omega
  rcases kc with rfl | rfl | rfl | rfl | rfl | rfl
  · refine br_t rfl (cp_num tx hp rd (fun r1 h1 => ?_))
    rintro _ rfl
    refine cp_num tx p1 h1 (fun r2 h2 => ?_)
    rintro _ rfl
    refine cp_num tx p2 h2 (fun r3 h3 => ?_)
    rintro _ rfl
    rw [fst_z] at h3
    exact hq r3 h3
  · have hS : S < 10 := by
      rcases Nat.lt_or_ge S 10 with u | u
      · exact u
      · exact absurd (Or.inl ⟨rfl, by omega⟩) nf
    have ek : (nI S).toNatClampNeg = S := nI_31 (by omega)
    have vx : vp_in (nI S) 10 := vp_in_q hS (by omega)
    refine br_f (by decide) (br_t rfl (cp_num tx hp rd (fun r1 h1 => ?_)))
    have hq' := hq
    unfold hH at hq'
    rw [e4, ek] at hq' ⊢
    refine ⟨vx, ?_⟩
    rintro _ rfl
    refine cp_num tx p1 h1 (fun r2 h2 => ?_)
    rw [show (sa h 5 (upd (h.2.1 5) S (nv B L p))).1 4 = nI S from e4, ek]
    refine ⟨vx, ?_⟩
    rintro _ rfl
    refine cp_num tx p2 h2 (fun r3 h3 => ?_)
    rw [show (sa (sa h 5 (upd (h.2.1 5) S (nv B L p))) 6 (upd ((sa h 5 (upd (h.2.1 5) S (nv B L p))).2.1 6) S (nv B L (ne B L p)))).1 4 = nI S from e4, ek]
    refine ⟨vx, ?_⟩
    rintro _ rfl
    rw [show (sa (sa (sa h 5 (upd (h.2.1 5) S (nv B L p))) 6 (upd ((sa h 5 (upd (h.2.1 5) S (nv B L p))).2.1 6) S (nv B L (ne B L p)))) 7 (upd ((sa (sa h 5 (upd (h.2.1 5) S (nv B L p))) 6 (upd ((sa h 5 (upd (h.2.1 5) S (nv B L p))).2.1 6) S (nv B L (ne B L p)))).2.1 7) S (nv B L (ne B L (ne B L p))))).1 4 = nI S from e4]
    rintro _ rfl _ rfl
    rw [fst_z] at h3
    exact hq' r3 h3
  · refine br_f (by decide) (br_f (by decide) (br_t rfl (cp_num tx hp rd (fun r1 h1 => ?_))))
    rintro _ rfl
    rw [fst_z] at h1
    exact hq r1 h1
  · have hT : T < 6 := by
      rcases Nat.lt_or_ge T 6 with u | u
      · exact u
      · exact absurd (Or.inr (Or.inl ⟨rfl, by omega⟩)) nf
    have ek : (nI T).toNatClampNeg = T := nI_31 (by omega)
    refine br_f (by decide) (br_f (by decide) (br_f (by decide) (br_t rfl (cp_num tx hp rd (fun r1 h1 => ?_)))))
    have hq' := hq
    unfold hH at hq'
    rw [e9, ek] at hq' ⊢
    refine ⟨vp_in_q hT (by omega), ?_⟩
    rintro _ rfl
    rw [show (sa h 10 (upd (h.2.1 10) T (nv B L p))).1 9 = nI T from e9]
    rintro _ rfl _ rfl
    rw [fst_z] at h1
    exact hq' r1 h1
  · have hQ : Q < 4 := by
      rcases Nat.lt_or_ge Q 4 with u | u
      · exact u
      · exact absurd (Or.inr (Or.inr (Or.inl ⟨rfl, by omega⟩))) nf
    have ek : (nI Q).toNatClampNeg = Q := nI_31 (by omega)
    have vx : vp_in (nI Q) 4 := vp_in_q hQ (by omega)
    refine br_f (by decide) (br_f (by decide) (br_f (by decide) (br_f (by decide) (br_t rfl ?_))))
    have hq' := hq
    unfold hH at hq'
    unfold PX1_readSeeker
    rw [e11, ek] at hq' ⊢
    refine cp_num tx hp rd (fun r1 h1 => ⟨vx, ?_⟩)
    rintro _ rfl
    refine cp_num tx p1 h1 (fun r2 h2 => ⟨vx, ?_⟩)
    rintro _ rfl
    refine cp_num tx p2 h2 (fun r3 h3 => ⟨vx, ?_⟩)
    rintro _ rfl
    refine cp_num tx p3 h3 (fun r4 h4 => ⟨vx, ?_⟩)
    rintro _ rfl
    rw [show (sa (sa (sa (sa h 12 (upd (h.2.1 12) Q (nv B L p))) 13 (upd ((sa h 12 (upd (h.2.1 12) Q (nv B L p))).2.1 13) Q (nv B L (ne B L p)))) 14 (upd ((sa (sa h 12 (upd (h.2.1 12) Q (nv B L p))) 13 (upd ((sa h 12 (upd (h.2.1 12) Q (nv B L p))).2.1 13) Q (nv B L (ne B L p)))).2.1 14) Q (nv B L (ne B L (ne B L p))))) 15 (upd ((sa (sa (sa h 12 (upd (h.2.1 12) Q (nv B L p))) 13 (upd ((sa h 12 (upd (h.2.1 12) Q (nv B L p))).2.1 13) Q (nv B L (ne B L p)))) 14 (upd ((sa (sa h 12 (upd (h.2.1 12) Q (nv B L p))) 13 (upd ((sa h 12 (upd (h.2.1 12) Q (nv B L p))).2.1 13) Q (nv B L (ne B L p)))).2.1 14) Q (nv B L (ne B L (ne B L p))))).2.1 15) Q (nv B L (ne B L (ne B L (ne B L p)))))).1 11 = nI Q from e11]
    rintro _ rfl _ rfl
    rw [fst_z] at h4
    exact hq' r4 h4
  · have hK : K < 8 := by
      rcases Nat.lt_or_ge K 8 with u | u
      · exact u
      · exact absurd (Or.inr (Or.inr (Or.inr ⟨rfl, by omega⟩))) nf
    have ek : (nI K).toNatClampNeg = K := nI_31 (by omega)
    refine br_f (by decide) (br_f (by decide) (br_f (by decide) (br_f (by decide) (br_f (by decide) (cp_num tx hp rd (fun r1 h1 => ?_))))))
    have hq' := hq
    unfold hH at hq'
    rw [e16, ek] at hq' ⊢
    refine ⟨vp_in_q hK (by omega), ?_⟩
    rintro _ rfl
    rw [show (sa h 17 (upd (h.2.1 17) K (nv B L p))).1 16 = nI K from e16]
    rintro _ rfl _ rfl
    rw [fst_z] at h1
    exact hq' r1 h1
/-- the kind of a clause -/
def isK (B : Nat → Nat) (L p k : Nat) : Prop := k < 6 ∧ MT B L (sk B L p) (kwH k)
theorem kwH_30 : ∀ k, k < 6 → kwH k < 30 := by decide
theorem kwH_ne : ∀ a, a < 6 → ∀ b, b < 6 → (slen (kwH a) = slen (kwH b) ∧ ∀ j, j < slen (kwH a) → sc (kwH a) j = sc (kwH b) j) → a = b := by
  have all : ∀ a, a < 6 → ∀ b, b < 6 → (slen (kwH a) = slen (kwH b) ∧ sc (kwH a) 0 = sc (kwH b) 0 ∧ sc (kwH a) 1 = sc (kwH b) 1 ∧ sc (kwH a) 2 = sc (kwH b) 2) → a = b := by decide +kernel
  have l3 : ∀ a, a < 6 → 3 ≤ slen (kwH a) := by decide +kernel
  intro a ha b hb ⟨h1, h2⟩
  have := l3 a ha
  exact all a ha b hb ⟨h1, h2 0 (by omega), h2 1 (by omega), h2 2 (by omega)⟩
theorem isK_one {B : Nat → Nat} {L p a b : Nat} (x : isK B L p a) (y : isK B L p b) : a = b := kwH_ne a x.1 b y.1 (MT_one (kwH_30 a x.1) (kwH_30 b y.1) x.2 y.2)
/-- the outcome of a clause: its fault; where it is 0, the place behind it and the hill after it -/
def ClS (B : Nat → Nat) (L i p : Nat) (h : OV) (S T Q K : Nat) (F : Int32) (p' : Nat) (h' : OV) : Prop :=
  ((∀ k, ¬ isK B L p k) ∧ F = flt (sk B L p) 0) ∨ (∃ k, isK B L p k ∧ (40 ≤ i ∨ ¬ (k = 0 ↔ i = 0) ∨ fulC k S T Q K) ∧ F = flt (sk B L p) 4) ∨ ∃ k, isK B L p k ∧ ¬ (40 ≤ i ∨ ¬ (k = 0 ↔ i = 0) ∨ fulC k S T Q K) ∧ F = hF B L k h (sk B L p + wz B L (sk B L p)) ∧ p' = hP B L k (sk B L p + wz B L (sk B L p)) ∧ h' = hH B L k h (sk B L p + wz B L (sk B L p))
theorem cp_isFull {h : OV} {k S T Q K : Nat} (hk : k < 6) (hc : HC h S T Q K) {post : Int32 → Prop} (hp : post (zb (fulC k S T Q K))) : PX1_isFull h (nI k) post := by
  obtain ⟨l1, l2, l3, l4, e4, e9, e11, e16⟩ := hc
  unfold PX1_isFull
  rw [e4, e9, e11, e16]
  have kc : k = 0 ∨ k = 1 ∨ k = 2 ∨ k = 3 ∨ k = 4 ∨ k = 5 := by omega
  have two : ∀ (n N : Nat), n ≤ N → N < 100 → (fulC k S T Q K ↔ n = N) → ((nI n < nI N → post 0) ∧ (¬ nI n < nI N → post 1)) := by
    intro n N h1 h2 h3
    refine br_c (fun g => ?_) (fun g => ?_)
    · have := (nI_ltI (by omega) (by omega)).mp g
      rw [zb_f (fun y => by have := h3.mp y; omega)] at hp
      exact hp
    · have : n = N := by
        rcases Nat.lt_or_ge n N with u | u
        · exact absurd (nI_lt u (by omega)) g
        · omega
      rw [zb_t (h3.mpr this)] at hp
      exact hp
  have no : ¬ fulC k S T Q K → post 0 := fun y => by rw [zb_f y] at hp; exact hp
  rcases kc with rfl | rfl | rfl | rfl | rfl | rfl
  · exact br_t rfl (no (by unfold fulC; omega))
  · exact br_f (by decide) (br_t rfl (two S 10 l1 (by omega) (by unfold fulC; omega)))
  · exact br_f (by decide) (br_f (by decide) (br_t rfl (no (by unfold fulC; omega))))
  · exact br_f (by decide) (br_f (by decide) (br_f (by decide) (br_t rfl (two T 6 l2 (by omega) (by unfold fulC; omega)))))
  · exact br_f (by decide) (br_f (by decide) (br_f (by decide) (br_f (by decide) (br_t rfl (two Q 4 l3 (by omega) (by unfold fulC; omega))))))
  · exact br_f (by decide) (br_f (by decide) (br_f (by decide) (br_f (by decide) (br_f (by decide) (two K 8 l4 (by omega) (by unfold fulC; omega))))))
theorem cp_pass {r t : OV} {L p n : Nat} {f : Int32} (h : RD r L p f) (hL : L ≤ 400) (hp : p + n ≤ L) {post : OV → Prop} (hq : ∀ r', RD r' L (p + n) f → post r') : PX2_pass r t (nI n) post := by
  unfold PX2_pass
  rw [h.1, h.2.1, nI_add]
  have e : (if nI (p + n) < nI L then nI (p + n) else nI L) = nI (p + n) := by
    by_cases c : p + n < L
    · rw [if_pos (nI_lt c (by omega))]
    · rw [if_neg (nI_nlt (by omega) (by omega)), show p + n = L by omega]
  rw [e]
  rintro _ rfl _ rfl
  exact hq _ ⟨h.1, rfl, h.2.2⟩
theorem cp_readClause {g r t m h : OV} {B : Nat → Nat} {L i p S T Q K : Nat} (tx : TX B L t m) (hi : i < 1000) (hp : p ≤ L) (rd : RD r L p 0) (hc : HC h S T Q K) {post : OV → OV → Prop} (hq : ∀ r' F p' h', ClS B L i p h S T Q K F p' h' → p' ≤ L → RD r' L p' F → (F = 0 → h' = h' ) → post r' h') : PX1_readClause g r t h (nI i) post := by
  have l4 := tx.1
  have sp : sk B L p ≤ L := (fw_ok (isBl B) hp).2.1
  have wl := wz_le (B := B) sp
  unfold PX1_readClause
  refine cp_word tx (n := 6) (kw := kwH) (by omega) kwH_30 tblH hp rd (fun no r1 h1 => ?_) (fun k hk mt r1 h1 => ?_)
  · refine br_nt rfl ?_
    rw [h1.2.1]
    refine cp_failAt (k := 0) h1 (fun r2 h2 => ?_)
    rw [fst_z] at h2
    exact hq r2 _ (sk B L p) h (Or.inl ⟨fun k y => no k y.1 y.2, rfl⟩) sp h2 (fun _ => rfl)
  · refine br_nf (nI_n1 (by omega)) ?_
    have kk : isK B L p k := ⟨hk, mt⟩
    have bad : (40 ≤ i ∨ ¬ (k = 0 ↔ i = 0) ∨ fulC k S T Q K) → PX1_readClause_b68 g t post r1 h := by
      intro y
      unfold PX1_readClause_b68
      rw [h1.2.1]
      refine cp_failAt (k := 4) h1 (fun r2 h2 => ?_)
      rw [fst_z] at h2
      exact hq r2 _ (sk B L p) h (Or.inr (Or.inl ⟨k, kk, y, rfl⟩)) sp h2 (fun _ => rfl)
    have b57 : ∀ t0 t1 : Int32, (t0 = t1 ↔ (k = 0 ↔ i = 0)) → ¬ 40 ≤ i → PX1_readClause_b57 g t post t0 t1 (nI k) r1 h := by
      intro t0 t1 et l40
      unfold PX1_readClause_b57
      refine br_nc (fun e => bad (Or.inr (Or.inl (fun y => e (et.mpr y))))) (fun e => cp_isFull hk hc ?_)
      by_cases fu : fulC k S T Q K
      · rw [zb_t fu]
        exact br_f (by decide) (bad (Or.inr (Or.inr fu)))
      · rw [zb_f fu]
        refine br_t rfl (cp_wordSize tx sp h1 (cp_pass h1 l4 wl (fun r2 h2 => cp_readNumbers tx hk wl h2 hc fu (fun r3 h3 => ?_))))
        refine hq r3 _ _ _ (Or.inr (Or.inr ⟨k, kk, ?_, rfl, rfl, rfl⟩)) (hP_le wl) h3 (fun _ => rfl)
        rintro (u | u | u)
        · exact l40 u
        · exact u (et.mp e)
        · exact fu u
    refine br_c (fun g40 => bad (Or.inl ((nI_leI (a := 40) (by omega) (by omega)).mp g40))) (fun g40 => ?_)
    have l40 : ¬ 40 ≤ i := fun y => g40 (nI_le (a := 40) y (by omega))
    have zk : nI k = 0 ↔ k = 0 := nI_eq (b := 0) (by omega) (by omega)
    have zi : nI i = 0 ↔ i = 0 := nI_eq (b := 0) (by omega) (by omega)
    unfold PX1_readClause_b48
    refine br_nc (fun ek => br_nc (fun ei => b57 0 0 ?_ l40) (fun ei => b57 0 1 ?_ l40)) (fun ek => br_nc (fun ei => b57 1 0 ?_ l40) (fun ei => b57 1 1 ?_ l40))
    · rw [zk] at ek
      rw [zi] at ei
      exact ⟨fun _ => ⟨fun y => absurd y ek, fun y => absurd y ei⟩, fun _ => rfl⟩
    · rw [zk] at ek
      rw [zi] at ei
      exact ⟨fun y => absurd y (by decide), fun y => absurd (y.mpr ei) ek⟩
    · rw [zk] at ek
      rw [zi] at ei
      exact ⟨fun y => absurd y (by decide), fun y => absurd (y.mp ek) ei⟩
    · rw [zk] at ek
      rw [zi] at ei
      exact ⟨fun _ => ⟨fun _ => ei, fun _ => ek⟩, fun _ => rfl⟩
