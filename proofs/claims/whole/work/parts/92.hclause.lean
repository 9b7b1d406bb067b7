/-! 92: the run of a hill's clauses, by the reference -/
def kr (j : Nat) : Nat := match j with
  | 0 => 0
  | 1 => 1
  | 2 => 3
  | 3 => 4
  | 4 => 5
  | _ => 2
theorem kr_rk : ∀ k, k < 6 → kr (rk k) = k ∧ rk k < 6 := by decide
theorem kr_6 : ∀ j, j < 6 → kr j < 6 ∧ rk (kr j) = j := by decide
theorem mp_hillWord {j : Nat} (hj : j < 6) {post : Nat → Prop} (hq : post (kwH (kr j))) : PX9_hillWord (nI j) post := by
  unfold PX9_hillWord
  have jc : j = 0 ∨ j = 1 ∨ j = 2 ∨ j = 3 ∨ j = 4 ∨ j = 5 := by omega
  rcases jc with rfl | rfl | rfl | rfl | rfl | rfl
  · exact br_t rfl hq
  · exact br_f (by decide) (br_t rfl hq)
  · exact br_f (by decide) (br_f (by decide) (br_t rfl hq))
  · exact br_f (by decide) (br_f (by decide) (br_f (by decide) (br_t rfl hq)))
  · exact br_f (by decide) (br_f (by decide) (br_f (by decide) (br_f (by decide) (br_t rfl hq))))
  · exact br_f (by decide) (br_f (by decide) (br_f (by decide) (br_f (by decide) (br_f (by decide) hq))))
theorem HN_one {h m : OV} {S T Q K S1 T1 Q1 K1 : Nat} (x : HN h m S T Q K) (y : HC h S1 T1 Q1 K1) : HN h m S1 T1 Q1 K1 := by
  obtain ⟨l1, l2, l3, l4, e4, e9, e11, e16⟩ := x.1
  obtain ⟨k1, k2, k3, k4, f4, f9, f11, f16⟩ := y
  have a1 := nI_inj (by omega) (by omega) (e4.symm.trans f4)
  have a2 := nI_inj (by omega) (by omega) (e9.symm.trans f9)
  have a3 := nI_inj (by omega) (by omega) (e11.symm.trans f11)
  have a4 := nI_inj (by omega) (by omega) (e16.symm.trans f16)
  subst a1 a2 a3 a4
  exact x
theorem mp_isFull {h m : OV} {i k S T Q K : Nat} (hk : k < 6) (hi : i ≤ 40) (hn : HN h m S T Q K) {post : Int32 → Prop} (hq : post (zb (40 ≤ i ∨ ¬ (k = 0 ↔ i = 0) ∨ fulC k S T Q K))) : PX9_isFull m (nI (rk k)) (nI i) post := by
  obtain ⟨⟨l1, l2, l3, l4, _⟩, ⟨c3, c4, c5, c6⟩, _⟩ := hn
  have p1 : (40 ≤ i ∨ ¬ (k = 0 ↔ i = 0) ∨ fulC k S T Q K) → post 1 := fun y => by rw [zb_t y] at hq; exact hq
  have p0 : ¬ (40 ≤ i ∨ ¬ (k = 0 ↔ i = 0) ∨ fulC k S T Q K) → post 0 := fun y => by rw [zb_f y] at hq; exact hq
  have two : ∀ {n N : Nat} {x : Int32}, x = nI n → n ≤ N → N < 100 → (fulC k S T Q K ↔ n = N) → ¬ 40 ≤ i → (k = 0 ↔ i = 0) → ((¬ x = nI N → post 0) ∧ (x = nI N → post 1)) := by
    intro n N x ex h1 h2 h3 h4 h5
    rw [ex]
    refine br_nc (fun g => p0 ?_) (fun g => p1 (Or.inr (Or.inr (h3.mpr (nI_inj (by omega) (by omega) g)))))
    rintro (u | u | u)
    · exact h4 u
    · exact u h5
    · exact g (by rw [h3.mp u])
  have no : ¬ fulC k S T Q K → ¬ 40 ≤ i → (k = 0 ↔ i = 0) → post 0 := fun h1 h4 h5 => p0 (by
    rintro (u | u | u)
    · exact h4 u
    · exact u h5
    · exact h1 u)
  have zi : nI i = 0 ↔ i = 0 := nI_eq (b := 0) (by omega) (by omega)
  have b24 : ∀ t0 t1 : Int32, (t0 = t1 ↔ (k = 0 ↔ i = 0)) → ¬ 40 ≤ i → PX9_isFull_b24 m post t0 t1 (nI (rk k)) := by
    intro t0 t1 et l40
    unfold PX9_isFull_b24
    refine br_c (fun e => ?_) (fun e => p1 (Or.inr (Or.inl (fun y => e (et.mpr y)))))
    have e' := et.mp e
    have kc : k = 0 ∨ k = 1 ∨ k = 2 ∨ k = 3 ∨ k = 4 ∨ k = 5 := by omega
    rcases kc with rfl | rfl | rfl | rfl | rfl | rfl
    · exact br_f (by decide) (br_f (by decide) (br_f (by decide) (br_f (by decide) (no (by unfold fulC; omega) l40 e'))))
    · exact br_t rfl (two (N := 10) c3 l1 (by omega) (by unfold fulC; omega) l40 e')
    · exact br_f (by decide) (br_f (by decide) (br_f (by decide) (br_f (by decide) (no (by unfold fulC; omega) l40 e'))))
    · exact br_f (by decide) (br_t rfl (two (N := 6) c4 l2 (by omega) (by unfold fulC; omega) l40 e'))
    · exact br_f (by decide) (br_f (by decide) (br_t rfl (two (N := 4) c5 l3 (by omega) (by unfold fulC; omega) l40 e')))
    · exact br_f (by decide) (br_f (by decide) (br_f (by decide) (br_t rfl (two (N := 8) c6 l4 (by omega) (by unfold fulC; omega) l40 e'))))
  have zk : nI (rk k) = 0 ↔ k = 0 := by
    have kc : k = 0 ∨ k = 1 ∨ k = 2 ∨ k = 3 ∨ k = 4 ∨ k = 5 := by omega
    rcases kc with rfl | rfl | rfl | rfl | rfl | rfl <;> decide
  unfold PX9_isFull
  refine br_c (fun g => p1 (Or.inl (by have := nI_inj (b := 40) (by omega) (by omega) g; omega))) (fun g => ?_)
  have l40 : ¬ 40 ≤ i := fun y => g (by rw [show i = 40 by omega]; rfl)
  unfold PX9_isFull_b15
  refine br_nc (fun ek => br_nc (fun ei => b24 0 0 ?_ l40) (fun ei => b24 0 1 ?_ l40)) (fun ek => br_nc (fun ei => b24 1 0 ?_ l40) (fun ei => b24 1 1 ?_ l40))
  · rw [zk] at ek
    rw [zi] at ei
    exact ⟨fun _ => ⟨fun y => absurd y ek, fun y => absurd y ei⟩, fun _ => rfl⟩
  · rw [zk] at ek
    rw [zi] at ei
    exact ⟨fun y => absurd y (by decide), fun y => absurd (y.mpr ei) ek⟩
  · rw [zk] at ek
    rw [zi] at ei
    exact ⟨fun y => absurd y (by decide), fun y => absurd (y.mp ek) ei⟩
  · rw [zk] at ek
    rw [zi] at ei
    exact ⟨fun _ => ⟨fun _ => ei, fun _ => ek⟩, fun _ => rfl⟩
theorem mp_hillLoop {t m : OV} {B : Nat → Nat} {L p : Nat} (tx : TX B L t m) (hp : p ≤ L) (h : RM m L p 0) {post : OV → Prop} {y1 y2 : Int32} (hit : ∀ k, k < 6 → MT B L p (kwH k) → PX9_hillClause_b34 post y1 y2 (nI (rk k)) m) (miss : (∀ k, k < 6 → ¬ MT B L p (kwH k)) → PX9_hillClause_b34 post y1 y2 6 m) : ∀ n j, j + n = 6 → (∀ i, i < j → ¬ MT B L p (kwH (kr i))) → PX9_hillClause_L11 post (n + 1) y1 y2 (nI j) m
  | 0, j, hj, no => by
    have : j = 6 := by omega
    subst this
    unfold PX9_hillClause_L11
    refine br_t (by decide) (miss (fun k hk y => ?_))
    obtain ⟨e1, e2⟩ := kr_rk k hk
    exact no (rk k) e2 (by rw [e1]; exact y)
  | n + 1, j, hj, no => by
    unfold PX9_hillClause_L11
    obtain ⟨e1, e2⟩ := kr_6 j (by omega)
    refine br_f (fr_nle (b := 6) (by omega) (by omega)) (mp_hillWord (by omega) (mp_stood tx (kwH_30 _ e1) hp h ?_))
    by_cases y : MT B L p (kwH (kr j))
    · rw [zb_t y]
      have := hit (kr j) e1 y
      rw [e2] at this
      exact br_nf (by decide) this
    · rw [zb_f y]
      refine br_nt rfl ?_
      rw [nI_1]
      rintro _ rfl
      refine mp_hillLoop tx hp h hit miss n (j + 1) (by omega) (fun i hi => ?_)
      rcases Nat.lt_or_ge i j with u | u
      · exact no i u
      · rw [show i = j by omega]
        exact y
theorem mp_hillClause {t m0 m h : OV} {B : Nat → Nat} {L i p S T Q K : Nat} {F : Int32} {p' : Nat} {h' : OV} (tx : TX B L t m0) (hi : i ≤ 40) (hp : p ≤ L) (r : Rst B L m0 m 0 p) (hn : HN h m S T Q K) (c : ClS B L i p h S T Q K F p' h') {post : OV → Prop} (hq : ∀ m', Rst B L m0 m' F p' → (F = 0 → ∃ S1 T1 Q1 K1, HN h' m' S1 T1 Q1 K1) → post m') : PX9_hillClause m (nI i) post := by
  have l4 := tx.1
  have sp : sk B L p ≤ L := (fw_ok (isBl B) hp).2.1
  have wl := wz_le (B := B) sp
  have fr := r.1
  unfold PX9_hillClause
  refine mp_blanks (TX_fr fr (by decide) tx) hp (r.2.2.1 rfl) (fun m1 f1 r1 => ?_)
  have fr1 : Fr [31, 32] LH [] [] m0 m1 := Fr_trans fr (Fr_mono f1 (by decide) (by simp) (by decide) (by decide))
  have tx1 := TX_fr fr1 (by decide) tx
  have hn1 := HN_fr (Fr_mono f1 (by decide) (by decide) (by decide) (by decide)) hn
  rintro _ rfl
  rw [r1.2.1]
  have bad : ∀ k : Nat, k < 8 → F = flt (sk B L p) (nI k) → PX9_fails m1 (nI k) (nI (sk B L p)) post := by
    intro k hk e
    refine mp_fails r1 (fun m2 f2 r2 => ?_)
    rw [fst_z, ← e] at r2
    have nz : ¬ F = 0 := by rw [e]; exact flt_ne (by omega) hk
    exact hq m2 ⟨Fr_trans fr1 (Fr_mono f2 (by decide) (by simp) (by decide) (by decide)), r2.2.2, fun y => absurd y nz, r2.1, _, sp, r2.2.1⟩ (fun y => absurd y nz)
  refine ⟨7, mp_hillLoop tx1 sp r1 (fun k hk mt => ?_) (fun no => ?_) 6 0 rfl (fun i hi => absurd hi (by omega))⟩
  · unfold PX9_hillClause_b34
    obtain ⟨e1, e2⟩ := kr_rk k hk
    refine br_nf (fun e => absurd (nI_inj (b := 6) (by omega) (by omega) e) (by omega)) (mp_isFull hk hi hn1 ?_)
    have kk : isK B L p k := ⟨hk, mt⟩
    by_cases fu : 40 ≤ i ∨ ¬ (k = 0 ↔ i = 0) ∨ fulC k S T Q K
    · rw [zb_t fu]
      refine br_f (by decide) (bad 4 (by omega) ?_)
      rcases c with ⟨a, _⟩ | ⟨k', a, b, e⟩ | ⟨k', a, b, e⟩
      · exact absurd kk (a k)
      · exact e
      · rw [isK_one a kk] at b
        exact absurd fu b
    · rw [zb_f fu]
      refine br_t rfl (mp_hillWord e2 ?_)
      rw [e1]
      refine cp_len (kwH_30 k hk) ?_
      rw [r1.2.1, nI_add, ← mt.1]
      rintro _ rfl _ rfl
      have r2 : Rst B L m0 (si m1 31 (nI (sk B L p + wz B L (sk B L p)))) 0 (sk B L p + wz B L (sk B L p)) := ⟨Fr_si (by decide) fr1, r1.2.2, fun _ => ⟨r1.1, rfl, r1.2.2⟩, r1.1, _, wl, rfl⟩
      rcases c with ⟨a, _⟩ | ⟨k', a, b, e⟩ | ⟨k', a, b, rfl, rfl, rfl⟩
      · exact absurd kk (a k)
      · rw [isK_one a kk] at b
        exact absurd b fu
      · have ek := isK_one a kk
        subst ek
        refine mp_hillPart tx hk wl r2 (HN_fr (m := m1) (Fr_si (by decide) Fr_refl) hn1) (fun y => fu (Or.inr (Or.inr y))) (fun m' h1 h2 => hq m' h1 (fun z => ⟨_, _, _, _, h2 z⟩))
  · unfold PX9_hillClause_b34
    refine br_nt rfl (bad 0 (by omega) ?_)
    rcases c with ⟨a, e⟩ | ⟨k', a, b, e⟩ | ⟨k', a, b, e⟩
    · exact e
    · exact absurd a.2 (no k' a.1)
    · exact absurd a.2 (no k' a.1)
