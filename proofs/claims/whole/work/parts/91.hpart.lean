/-! 91: a clause of a hill, by the reference -/
def HN (h m : OV) (S T Q K : Nat) : Prop := HC h S T Q K ∧ (m.2.1 20 3 = nI S ∧ m.2.1 20 4 = nI T ∧ m.2.1 20 5 = nI Q ∧ m.2.1 20 6 = nI K) ∧ (m.2.1 20 0 = h.1 1 ∧ m.2.1 20 1 = h.1 2 ∧ m.2.1 20 2 = h.1 3 ∧ m.2.1 20 7 = h.1 8) ∧ (∀ t, t < S → m.2.1 21 t = h.2.1 5 t ∧ m.2.1 22 t = h.2.1 6 t ∧ m.2.1 23 t = h.2.1 7 t) ∧ (∀ k, k < T → m.2.1 24 k = h.2.1 10 k) ∧ (∀ q, q < Q → m.2.1 25 q = h.2.1 12 q ∧ m.2.1 26 q = h.2.1 13 q ∧ m.2.1 27 q = h.2.1 14 q ∧ m.2.1 28 q = h.2.1 15 q) ∧ ∀ k, k < K → m.2.1 29 k = h.2.1 17 k
def LH : List Nat := [20, 21, 22, 23, 24, 25, 26, 27, 28, 29]
theorem HN_fr {h m m' : OV} {S T Q K : Nat} (f : Fr [31, 32] [] [] [] m m') (r : HN h m S T Q K) : HN h m' S T Q K := by
  have g : ∀ k, k ≠ 1 → m'.2.1 k = m.2.1 k := fun k n => f.2.1 k (by simp) n
  unfold HN at r ⊢
  rw [g 20 (by decide), g 21 (by decide), g 22 (by decide), g 23 (by decide), g 24 (by decide), g 25 (by decide), g 26 (by decide), g 27 (by decide), g 28 (by decide), g 29 (by decide)]
  exact r
/-- how the reading stands in the reference -/
def Rst (B : Nat → Nat) (L : Nat) (m0 m : OV) (f : Int32) (p : Nat) : Prop := Fr [31, 32] LH [] [] m0 m ∧ m.1 32 = f ∧ (f = 0 → RM m L p 0) ∧ m.1 30 = nI L ∧ ∃ q, q ≤ L ∧ m.1 31 = nI q
theorem Rst_sa {B : Nat → Nat} {L : Nat} {m0 m : OV} {f : Int32} {p k : Nat} {g : Nat → Int32} (hk : k ∈ LH) (r : Rst B L m0 m f p) : Rst B L m0 (sa m k g) f p := by
  have h1 : k ≠ 1 := fun e => by rw [e] at hk; exact absurd hk (by decide)
  exact ⟨Fr_sa hk h1 r.1, r.2.1, r.2.2.1, r.2.2.2.1, r.2.2.2.2⟩
theorem mp_amt {t m0 m : OV} {B : Nat → Nat} {L p : Nat} {f lo hi : Int32} (tx : TX B L t m0) (hp : p ≤ L) (r : Rst B L m0 m f p) {post : Int32 → OV → Prop} (hq : ∀ v m', Fr [31, 32] [] [] [] m m' → Rst B L m0 m' (fst0 f (nk B L p lo hi)) (ne B L p) → (fst0 f (nk B L p lo hi) = 0 → v = nv B L p) → post v m') : PX9_amount m lo hi post := by
  obtain ⟨fr, e32, h, h30, h31⟩ := r
  refine mp_num (TX_fr fr (by decide) tx) hp e32 h h30 h31 (fun v m' f' e' g' h30' h31' => hq v m' f' ⟨Fr_trans fr (Fr_mono f' (by decide) (by simp) (by decide) (by decide)), e', fun z => (g' z).2, h30', h31'⟩ (fun z => (g' z).1))
theorem sa20 {m : OV} {j : Nat} {x : Int32} {i : Nat} : (sa m 20 (upd (m.2.1 20) j x)).2.1 20 i = if i = j then x else m.2.1 20 i := rfl
def rk (k : Nat) : Nat := match k with
  | 0 => 0
  | 1 => 1
  | 2 => 5
  | 3 => 2
  | 4 => 3
  | _ => 4
def bmp (k j n : Nat) : Nat := if k = j then n + 1 else n
theorem mp_hillPart {t m0 m h : OV} {B : Nat → Nat} {L p k S T Q K : Nat} (tx : TX B L t m0) (hk : k < 6) (hp : p ≤ L) (r : Rst B L m0 m 0 p) (hn : HN h m S T Q K) (nf : ¬ fulC k S T Q K) {post : OV → Prop} (hq : ∀ m', Rst B L m0 m' (hF B L k h p) (hP B L k p) → (hF B L k h p = 0 → HN (hH B L k h p) m' (bmp k 1 S) (bmp k 3 T) (bmp k 4 Q) (bmp k 5 K)) → post m') : PX9_hillPart m (nI (rk k)) post := by
  obtain ⟨⟨l1, l2, l3, l4, e4, e9, e11, e16⟩, ⟨c3, c4, c5, c6⟩, ⟨d0, d1, d2, d7⟩, aS, aT, aQ, aK⟩ := hn
  have hn : HN h m S T Q K := ⟨⟨l1, l2, l3, l4, e4, e9, e11, e16⟩, ⟨c3, c4, c5, c6⟩, ⟨d0, d1, d2, d7⟩, aS, aT, aQ, aK⟩
  have p1 := ne_le (B := B) hp
  have p2 := ne_le (B := B) p1
  have p3 := ne_le (B := B) p2
  have i3 : m.2.1 20 ((3 : Int32)).toNatClampNeg = nI S := c3
  have i4 : m.2.1 20 ((4 : Int32)).toNatClampNeg = nI T := c4
  have i5 : m.2.1 20 ((5 : Int32)).toNatClampNeg = nI Q := c5
  have i6 : m.2.1 20 ((6 : Int32)).toNatClampNeg = nI K := c6
  unfold fulC at nf
  unfold PX9_hillPart
  have kc : k = 0 ∨ k = 1 ∨ k = 2 ∨ k = 3 ∨ k = 4 ∨ k = 5 := by omega
  rcases kc with rfl | rfl | rfl | rfl | rfl | rfl
  · refine br_t rfl (mp_amt tx hp r (fun v1 m1 f1 r1 w1 => ?_))
    rw [fst_z] at r1 w1
    rintro _ rfl
    refine mp_amt tx p1 (Rst_sa (by decide) r1) (fun v2 m2 f2 r2 w2 => ?_)
    rintro _ rfl
    refine mp_amt tx p2 (Rst_sa (by decide) r2) (fun v3 m3 f3 r3 w3 => ?_)
    rintro _ rfl
    refine hq _ (Rst_sa (by decide) r3) (fun z => ?_)
    obtain ⟨z12, z3⟩ := fst_0 z
    obtain ⟨z1, z2⟩ := fst_0 z12
    have u1 := w1 z1
    have u2 := w2 z12
    have u3 := w3 z
    subst u2 u3
    have h1 := HN_fr f1 hn
    have q2 : ∀ j, j ≠ 1 → m3.2.1 j = (sa m2 20 (upd (m2.2.1 20) 1 (nv B L (ne B L p)))).2.1 j := fun j n => f3.2.1 j (by simp) n
    have q1 : ∀ j, j ≠ 1 → m2.2.1 j = (sa m1 20 (upd (m1.2.1 20) 0 v1)).2.1 j := fun j n => f2.2.1 j (by simp) n
    have e20 : m3.2.1 20 = upd (upd (m1.2.1 20) 0 (nv B L p)) 1 (nv B L (ne B L p)) := by
      rw [q2 20 (by decide), sa_at, q1 20 (by decide), sa_at, u1]
    have eo : ∀ j, j ≠ 1 → j ≠ 20 → m3.2.1 j = m1.2.1 j := fun j n n2 => by
      rw [q2 j n, sa_ne _ _ n2, q1 j n, sa_ne _ _ n2]
    obtain ⟨a1, a2, a3, a4, a5, a6, a7⟩ := h1
    refine ⟨a1, ?_, ?_, ?_, ?_, ?_, ?_⟩
    · show upd (m3.2.1 20) 2 (nv B L (ne B L (ne B L p))) 3 = _ ∧ upd (m3.2.1 20) 2 (nv B L (ne B L (ne B L p))) 4 = _ ∧ upd (m3.2.1 20) 2 (nv B L (ne B L (ne B L p))) 5 = _ ∧ upd (m3.2.1 20) 2 (nv B L (ne B L (ne B L p))) 6 = _
      rw [e20]
      exact a2
    · show upd (m3.2.1 20) 2 (nv B L (ne B L (ne B L p))) 0 = nv B L p ∧ upd (m3.2.1 20) 2 (nv B L (ne B L (ne B L p))) 1 = nv B L (ne B L p) ∧ upd (m3.2.1 20) 2 (nv B L (ne B L (ne B L p))) 2 = nv B L (ne B L (ne B L p)) ∧ upd (m3.2.1 20) 2 (nv B L (ne B L (ne B L p))) 7 = h.1 8
      rw [e20]
      exact ⟨rfl, rfl, rfl, a3.2.2.2⟩
    · show ∀ t, t < S → m3.2.1 21 t = _ ∧ m3.2.1 22 t = _ ∧ m3.2.1 23 t = _
      rw [eo 21 (by decide) (by decide), eo 22 (by decide) (by decide), eo 23 (by decide) (by decide)]
      exact a4
    · show ∀ t, t < T → m3.2.1 24 t = _
      rw [eo 24 (by decide) (by decide)]
      exact a5
    · show ∀ t, t < Q → m3.2.1 25 t = _ ∧ m3.2.1 26 t = _ ∧ m3.2.1 27 t = _ ∧ m3.2.1 28 t = _
      rw [eo 25 (by decide) (by decide), eo 26 (by decide) (by decide), eo 27 (by decide) (by decide), eo 28 (by decide) (by decide)]
      exact a6
    · show ∀ t, t < K → m3.2.1 29 t = _
      rw [eo 29 (by decide) (by decide)]
      exact a7
  · have hS : S < 10 := by omega
    have ek : (nI S).toNatClampNeg = S := nI_31 (by omega)
    have vx : vp_in (nI S) 10 := vp_in_q hS (by omega)
    refine br_f (by decide) (br_t rfl ?_)
    rw [i3]
    rintro _ rfl
    rw [ek]
    refine mp_amt tx hp r (fun v1 m1 f1 r1 w1 => ⟨vx, ?_⟩)
    rw [fst_z] at r1 w1
    rintro _ rfl
    refine mp_amt tx p1 (Rst_sa (by decide) r1) (fun v2 m2 f2 r2 w2 => ⟨vx, ?_⟩)
    rintro _ rfl
    refine mp_amt tx p2 (Rst_sa (by decide) r2) (fun v3 m3 f3 r3 w3 => ⟨vx, ?_⟩)
    rintro _ rfl _ rfl _ rfl
    have q2 : ∀ j, j ≠ 1 → m3.2.1 j = (sa m2 22 (upd (m2.2.1 22) S v2)).2.1 j := fun j n => f3.2.1 j (by simp) n
    have q1 : ∀ j, j ≠ 1 → m2.2.1 j = (sa m1 21 (upd (m1.2.1 21) S v1)).2.1 j := fun j n => f2.2.1 j (by simp) n
    have e21 : m3.2.1 21 = upd (m1.2.1 21) S v1 := by rw [q2 21 (by decide), sa_ne _ _ (by decide), q1 21 (by decide), sa_at]
    have e22 : m3.2.1 22 = upd (m1.2.1 22) S v2 := by rw [q2 22 (by decide), sa_at, q1 22 (by decide), sa_ne _ _ (by decide)]
    have eo : ∀ j, j ≠ 1 → j ≠ 21 → j ≠ 22 → m3.2.1 j = m1.2.1 j := fun j n n1 n2 => by
      rw [q2 j n, sa_ne _ _ n2, q1 j n, sa_ne _ _ n1]
    have h1 := HN_fr f1 hn
    refine hq _ (Rst_sa (by decide) (Rst_sa (by decide) r3)) (fun z => ?_)
    obtain ⟨z12, z3⟩ := fst_0 z
    obtain ⟨z1, z2⟩ := fst_0 z12
    have u1 := w1 z1
    have u2 := w2 z12
    have u3 := w3 z
    have i3' : (sa m3 23 (upd (m3.2.1 23) S v3)).2.1 20 3 = nI S := by
      rw [sa_ne _ _ (by decide), eo 20 (by decide) (by decide) (by decide)]
      exact h1.2.1.1
    obtain ⟨a1, a2, a3, a4, a5, a6, a7⟩ := h1
    have eh : hH B L 1 h p = si (sa (sa (sa h 5 (upd (h.2.1 5) S (nv B L p))) 6 (upd (h.2.1 6) S (nv B L (ne B L p)))) 7 (upd (h.2.1 7) S (nv B L (ne B L (ne B L p))))) 4 (nI (S + 1)) := by
      unfold hH
      rw [e4, ek, nI_1]
      rfl
    rw [eh]
    refine ⟨⟨by show S + 1 ≤ 10; omega, l2, l3, l4, rfl, e9, e11, e16⟩, ?_, ?_, ?_, ?_, ?_, ?_⟩
    · show upd ((sa m3 23 (upd (m3.2.1 23) S v3)).2.1 20) 3 ((sa m3 23 (upd (m3.2.1 23) S v3)).2.1 20 3 + 1) 3 = nI (S + 1) ∧ upd (m3.2.1 20) 3 ((sa m3 23 (upd (m3.2.1 23) S v3)).2.1 20 3 + 1) 4 = _ ∧ upd (m3.2.1 20) 3 ((sa m3 23 (upd (m3.2.1 23) S v3)).2.1 20 3 + 1) 5 = _ ∧ upd (m3.2.1 20) 3 ((sa m3 23 (upd (m3.2.1 23) S v3)).2.1 20 3 + 1) 6 = _
      rw [upd_eq, i3', nI_1, upd_ne _ _ (by decide), upd_ne _ _ (by decide), upd_ne _ _ (by decide), eo 20 (by decide) (by decide) (by decide)]
      exact ⟨rfl, a2.2.1, a2.2.2.1, a2.2.2.2⟩
    · show upd (m3.2.1 20) 3 ((sa m3 23 (upd (m3.2.1 23) S v3)).2.1 20 3 + 1) 0 = _ ∧ upd (m3.2.1 20) 3 ((sa m3 23 (upd (m3.2.1 23) S v3)).2.1 20 3 + 1) 1 = _ ∧ upd (m3.2.1 20) 3 ((sa m3 23 (upd (m3.2.1 23) S v3)).2.1 20 3 + 1) 2 = _ ∧ upd (m3.2.1 20) 3 ((sa m3 23 (upd (m3.2.1 23) S v3)).2.1 20 3 + 1) 7 = _
      rw [upd_ne _ _ (by decide), upd_ne _ _ (by decide), upd_ne _ _ (by decide), upd_ne _ _ (by decide), eo 20 (by decide) (by decide) (by decide)]
      exact a3
    · intro t ht
      have ht' : t < S + 1 := ht
      show m3.2.1 21 t = upd (h.2.1 5) S (nv B L p) t ∧ m3.2.1 22 t = upd (h.2.1 6) S (nv B L (ne B L p)) t ∧ upd (m3.2.1 23) S v3 t = upd (h.2.1 7) S (nv B L (ne B L (ne B L p))) t
      rw [e21, e22, eo 23 (by decide) (by decide) (by decide), u1, u2, u3]
      by_cases e : t = S
      · rw [e, upd_eq, upd_eq, upd_eq, upd_eq, upd_eq, upd_eq]
        exact ⟨rfl, rfl, rfl⟩
      · rw [upd_ne _ _ e, upd_ne _ _ e, upd_ne _ _ e, upd_ne _ _ e, upd_ne _ _ e, upd_ne _ _ e]
        exact a4 t (by omega)
    · show ∀ t, t < T → m3.2.1 24 t = _
      rw [eo 24 (by decide) (by decide) (by decide)]
      exact a5
    · show ∀ t, t < Q → m3.2.1 25 t = _ ∧ m3.2.1 26 t = _ ∧ m3.2.1 27 t = _ ∧ m3.2.1 28 t = _
      rw [eo 25 (by decide) (by decide) (by decide), eo 26 (by decide) (by decide) (by decide), eo 27 (by decide) (by decide) (by decide), eo 28 (by decide) (by decide) (by decide)]
      exact a6
    · show ∀ t, t < K → m3.2.1 29 t = _
      rw [eo 29 (by decide) (by decide) (by decide)]
      exact a7
  · refine br_f (by decide) (br_f (by decide) (br_f (by decide) (br_f (by decide) (br_f (by decide) ?_))))
    rw [i3]
    have eL : (nI S - 1) = h.1 4 - 1 := by rw [e4]
    rw [eL]
    refine mp_amt tx hp r (fun v1 m1 f1 r1 w1 => ?_)
    rw [fst_z] at r1 w1
    rintro _ rfl
    refine hq _ (Rst_sa (by decide) r1) (fun z => ?_)
    have u1 := w1 z
    obtain ⟨a1, a2, a3, a4, a5, a6, a7⟩ := HN_fr f1 hn
    refine ⟨a1, a2, ?_, a4, a5, a6, a7⟩
    exact ⟨a3.1, a3.2.1, a3.2.2.1, u1⟩
  · have hT : T < 6 := by omega
    have ek : (nI T).toNatClampNeg = T := nI_31 (by omega)
    refine br_f (by decide) (br_f (by decide) (br_t rfl ?_))
    rw [i4, ek]
    refine mp_amt tx hp r (fun v1 m1 f1 r1 w1 => ⟨vp_in_q hT (by omega), ?_⟩)
    rw [fst_z] at r1 w1
    have h1 := HN_fr f1 hn
    rintro _ rfl
    rw [show (sa m1 24 (upd (m1.2.1 24) T v1)).2.1 20 ((4 : Int32)).toNatClampNeg = nI T from h1.2.1.2.1, nI_1]
    rintro _ rfl _ rfl
    refine hq _ (Rst_sa (by decide) (Rst_sa (by decide) r1)) (fun z => ?_)
    have u1 := w1 z
    obtain ⟨a1, a2, a3, a4, a5, a6, a7⟩ := h1
    have eh : hH B L 3 h p = si (sa h 10 (upd (h.2.1 10) T (nv B L p))) 9 (nI (T + 1)) := by
      unfold hH
      rw [e9, ek, nI_1]
      rfl
    rw [eh]
    refine ⟨⟨l1, by show T + 1 ≤ 6; omega, l3, l4, e4, rfl, e11, e16⟩, ⟨a2.1, rfl, a2.2.2⟩, a3, a4, fun t ht => ?_, a6, a7⟩
    have ht' : t < T + 1 := ht
    show upd (m1.2.1 24) T v1 t = upd (h.2.1 10) T (nv B L p) t
    rw [u1]
    by_cases e : t = T
    · rw [e, upd_eq, upd_eq]
    · rw [upd_ne _ _ e, upd_ne _ _ e]
      exact a5 t (by omega)
  · have hQ : Q < 4 := by omega
    have ek : (nI Q).toNatClampNeg = Q := nI_31 (by omega)
    have vx : vp_in (nI Q) 4 := vp_in_q hQ (by omega)
    refine br_f (by decide) (br_f (by decide) (br_f (by decide) (br_t rfl ?_)))
    unfold PX9_readsSeeker
    rw [i5]
    rintro _ rfl
    rw [ek]
    refine mp_amt tx hp r (fun v1 m1 f1 r1 w1 => ⟨vx, ?_⟩)
    rw [fst_z] at r1 w1
    rintro _ rfl
    refine mp_amt tx p1 (Rst_sa (by decide) r1) (fun v2 m2 f2 r2 w2 => ⟨vx, ?_⟩)
    rintro _ rfl
    refine mp_amt tx p2 (Rst_sa (by decide) r2) (fun v3 m3 f3 r3 w3 => ⟨vx, ?_⟩)
    rintro _ rfl
    refine mp_amt tx p3 (Rst_sa (by decide) r3) (fun v4 m4 f4 r4 w4 => ⟨vx, ?_⟩)
    rintro _ rfl _ rfl _ rfl
    have q3 : ∀ j, j ≠ 1 → m4.2.1 j = (sa m3 27 (upd (m3.2.1 27) Q v3)).2.1 j := fun j n => f4.2.1 j (by simp) n
    have q2 : ∀ j, j ≠ 1 → m3.2.1 j = (sa m2 26 (upd (m2.2.1 26) Q v2)).2.1 j := fun j n => f3.2.1 j (by simp) n
    have q1 : ∀ j, j ≠ 1 → m2.2.1 j = (sa m1 25 (upd (m1.2.1 25) Q v1)).2.1 j := fun j n => f2.2.1 j (by simp) n
    have e25 : m4.2.1 25 = upd (m1.2.1 25) Q v1 := by rw [q3 25 (by decide), sa_ne _ _ (by decide), q2 25 (by decide), sa_ne _ _ (by decide), q1 25 (by decide), sa_at]
    have e26 : m4.2.1 26 = upd (m1.2.1 26) Q v2 := by rw [q3 26 (by decide), sa_ne _ _ (by decide), q2 26 (by decide), sa_at, q1 26 (by decide), sa_ne _ _ (by decide)]
    have e27 : m4.2.1 27 = upd (m1.2.1 27) Q v3 := by rw [q3 27 (by decide), sa_at, q2 27 (by decide), sa_ne _ _ (by decide), q1 27 (by decide), sa_ne _ _ (by decide)]
    have eo : ∀ j, j ≠ 1 → j ≠ 25 → j ≠ 26 → j ≠ 27 → m4.2.1 j = m1.2.1 j := fun j n n1 n2 n3 => by
      rw [q3 j n, sa_ne _ _ n3, q2 j n, sa_ne _ _ n2, q1 j n, sa_ne _ _ n1]
    have h1 := HN_fr f1 hn
    refine hq _ (Rst_sa (by decide) (Rst_sa (by decide) r4)) (fun z => ?_)
    obtain ⟨z123, z4⟩ := fst_0 z
    obtain ⟨z12, z3⟩ := fst_0 z123
    obtain ⟨z1, z2⟩ := fst_0 z12
    have u1 := w1 z1
    have u2 := w2 z12
    have u3 := w3 z123
    have u4 := w4 z
    have i5' : (sa m4 28 (upd (m4.2.1 28) Q v4)).2.1 20 5 = nI Q := by
      rw [sa_ne _ _ (by decide), eo 20 (by decide) (by decide) (by decide) (by decide)]
      exact h1.2.1.2.2.1
    obtain ⟨a1, a2, a3, a4, a5, a6, a7⟩ := h1
    have eh : hH B L 4 h p = si (sa (sa (sa (sa h 12 (upd (h.2.1 12) Q (nv B L p))) 13 (upd (h.2.1 13) Q (nv B L (ne B L p)))) 14 (upd (h.2.1 14) Q (nv B L (ne B L (ne B L p))))) 15 (upd (h.2.1 15) Q (nv B L (ne B L (ne B L (ne B L p)))))) 11 (nI (Q + 1)) := by
      unfold hH
      rw [e11, ek, nI_1]
      rfl
    rw [eh]
    refine ⟨⟨l1, l2, by show Q + 1 ≤ 4; omega, l4, e4, e9, rfl, e16⟩, ?_, ?_, ?_, ?_, ?_, ?_⟩
    · show upd (m4.2.1 20) 5 ((sa m4 28 (upd (m4.2.1 28) Q v4)).2.1 20 5 + 1) 3 = _ ∧ upd (m4.2.1 20) 5 ((sa m4 28 (upd (m4.2.1 28) Q v4)).2.1 20 5 + 1) 4 = _ ∧ upd ((sa m4 28 (upd (m4.2.1 28) Q v4)).2.1 20) 5 ((sa m4 28 (upd (m4.2.1 28) Q v4)).2.1 20 5 + 1) 5 = nI (Q + 1) ∧ upd (m4.2.1 20) 5 ((sa m4 28 (upd (m4.2.1 28) Q v4)).2.1 20 5 + 1) 6 = _
      rw [upd_eq, i5', nI_1, upd_ne _ _ (by decide), upd_ne _ _ (by decide), upd_ne _ _ (by decide), eo 20 (by decide) (by decide) (by decide) (by decide)]
      exact ⟨a2.1, a2.2.1, rfl, a2.2.2.2⟩
    · show upd (m4.2.1 20) 5 ((sa m4 28 (upd (m4.2.1 28) Q v4)).2.1 20 5 + 1) 0 = _ ∧ upd (m4.2.1 20) 5 ((sa m4 28 (upd (m4.2.1 28) Q v4)).2.1 20 5 + 1) 1 = _ ∧ upd (m4.2.1 20) 5 ((sa m4 28 (upd (m4.2.1 28) Q v4)).2.1 20 5 + 1) 2 = _ ∧ upd (m4.2.1 20) 5 ((sa m4 28 (upd (m4.2.1 28) Q v4)).2.1 20 5 + 1) 7 = _
      rw [upd_ne _ _ (by decide), upd_ne _ _ (by decide), upd_ne _ _ (by decide), upd_ne _ _ (by decide), eo 20 (by decide) (by decide) (by decide) (by decide)]
      exact a3
    · show ∀ t, t < S → m4.2.1 21 t = _ ∧ m4.2.1 22 t = _ ∧ m4.2.1 23 t = _
      rw [eo 21 (by decide) (by decide) (by decide) (by decide), eo 22 (by decide) (by decide) (by decide) (by decide), eo 23 (by decide) (by decide) (by decide) (by decide)]
      exact a4
    · show ∀ t, t < T → m4.2.1 24 t = _
      rw [eo 24 (by decide) (by decide) (by decide) (by decide)]
      exact a5
    · intro t ht
      have ht' : t < Q + 1 := ht
      show m4.2.1 25 t = upd (h.2.1 12) Q (nv B L p) t ∧ m4.2.1 26 t = upd (h.2.1 13) Q (nv B L (ne B L p)) t ∧ m4.2.1 27 t = upd (h.2.1 14) Q (nv B L (ne B L (ne B L p))) t ∧ upd (m4.2.1 28) Q v4 t = upd (h.2.1 15) Q (nv B L (ne B L (ne B L (ne B L p)))) t
      rw [e25, e26, e27, eo 28 (by decide) (by decide) (by decide) (by decide), u1, u2, u3, u4]
      by_cases e : t = Q
      · rw [e, upd_eq, upd_eq, upd_eq, upd_eq, upd_eq, upd_eq, upd_eq, upd_eq]
        exact ⟨rfl, rfl, rfl, rfl⟩
      · rw [upd_ne _ _ e, upd_ne _ _ e, upd_ne _ _ e, upd_ne _ _ e, upd_ne _ _ e, upd_ne _ _ e, upd_ne _ _ e, upd_ne _ _ e]
        exact a6 t (by omega)
    · show ∀ t, t < K → m4.2.1 29 t = _
      rw [eo 29 (by decide) (by decide) (by decide) (by decide)]
      exact a7
  · have hK : K < 8 := by omega
    have ek : (nI K).toNatClampNeg = K := nI_31 (by omega)
    refine br_f (by decide) (br_f (by decide) (br_f (by decide) (br_f (by decide) (br_t rfl ?_))))
    rw [i6, ek]
    refine mp_amt tx hp r (fun v1 m1 f1 r1 w1 => ⟨vp_in_q hK (by omega), ?_⟩)
    rw [fst_z] at r1 w1
    have h1 := HN_fr f1 hn
    rintro _ rfl
    rw [show (sa m1 29 (upd (m1.2.1 29) K v1)).2.1 20 ((6 : Int32)).toNatClampNeg = nI K from h1.2.1.2.2.2, nI_1]
    rintro _ rfl _ rfl
    refine hq _ (Rst_sa (by decide) (Rst_sa (by decide) r1)) (fun z => ?_)
    have u1 := w1 z
    obtain ⟨a1, a2, a3, a4, a5, a6, a7⟩ := h1
    have eh : hH B L 5 h p = si (sa h 17 (upd (h.2.1 17) K (nv B L p))) 16 (nI (K + 1)) := by
      unfold hH
      rw [e16, ek, nI_1]
      rfl
    rw [eh]
    refine ⟨⟨l1, l2, l3, by show K + 1 ≤ 8; omega, e4, e9, e11, rfl⟩, ⟨a2.1, a2.2.1, a2.2.2.1, rfl⟩, a3, a4, a5, a6, fun t ht => ?_⟩
    have ht' : t < K + 1 := ht
    show upd (m1.2.1 29) K v1 t = upd (h.2.1 17) K (nv B L p) t
    rw [u1]
    by_cases e : t = K
    · rw [e, upd_eq, upd_eq]
    · rw [upd_ne _ _ e, upd_ne _ _ e]
      exact a7 t (by omega)
