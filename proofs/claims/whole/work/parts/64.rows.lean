/-! 64: whole rows of the past, whole images -/
def LRow : List (Nat × Nat × Nat × Nat) := [(0, 1, 0, 1), (1, 1, 7, 1), (2, 1, 8, 1), (3, 5, 0, 10), (13, 6, 0, 6), (19, 9, 0, 4), (23, 11, 0, 4), (27, 12, 0, 4), (31, 13, 0, 4)]
def LCur : List (Nat × Nat × Nat × Nat) := [(0, 1, 0, 12), (12, 5, 0, 10), (22, 6, 0, 6), (28, 9, 0, 4), (32, 11, 0, 4), (36, 12, 0, 4), (40, 13, 0, 4)]
def LImg : List (Nat × Nat × Nat × Nat) := [(0, 1, 0, 12), (12, 5, 0, 10), (22, 6, 0, 6), (28, 9, 0, 4), (32, 11, 0, 4), (36, 12, 0, 4), (40, 13, 0, 4), (44, 56, 0, 1), (45, 2, 0, 10), (55, 3, 0, 10), (65, 4, 0, 10), (75, 7, 0, 4), (79, 8, 0, 4), (83, 10, 0, 4), (87, 14, 0, 8), (95, 15, 0, 10), (105, 16, 0, 10), (115, 17, 0, 6), (121, 18, 0, 4), (125, 19, 0, 2), (127, 55, 0, 700)]
theorem mv1F {base b : Nat} {m0 m : OV} {L : List (Nat × Nat × Nat × Nat)} (i : Nat) (k : KF 55 58 59 [58, 59] [55] base m0 L b m) (hb : base + b < 700) {post : OV → Prop} (hp : ∀ m', KF 55 58 59 [58, 59] [55] base m0 (L ++ [(b, 1, i, 1)]) (b + 1) m' → post m') : PX9_moves m (m.2.1 1 i) (fun r v => ∀ v7 : OV, v7 = sa v 1 (upd (v.2.1 1) i r) → post v7) := by
  refine mp_moveF k.2.1 k.2.2.1 hb (fun m1 f p c => ?_)
  have e : m1.2.1 1 = m.2.1 1 := funext (fun j => f.2.2.1 j (by simp))
  rintro _ rfl
  rw [e, upd_same, ← e, sa_self]
  refine hp m1 (KF_step (i0 := i) k (by decide) (by decide) (by decide) (fun j _ => k.1.2.2.1 _ (by simp)) f p (fun j hj => ?_) (fun j hj => ?_))
  · rw [c, show j = 0 by omega]
    exact upd_eq _ _ _
  · rw [c, upd_ne _ _ (by omega)]
theorem mvrF {base b gk n : Nat} {m0 m : OV} {L : List (Nat × Nat × Nat × Nat)} (k : KF 55 58 59 [58, 59] [55] base m0 L b m) (hb : base + b + n ≤ 700) (hk : gk ≠ 55) (h1 : gk ≠ 1) {post : OV → Prop} (hp : ∀ m', KF 55 58 59 [58, 59] [55] base m0 (L ++ [(b, gk, 0, n)]) (b + n) m' → post m') : PX9_movesRow m gk n post := by
  refine mp_moverF k.2.1 k.2.2.1 hb hk (fun m1 f p c o => hp m1 (KF_step (i0 := 0) k (by decide) (by decide) (by decide) (fun j _ => ?_) f p (fun j hj => ?_) o))
  · rw [k.1.2.1 gk (by simp [hk]) h1]
  · rw [c j hj, Nat.zero_add]
theorem mv1B {base b : Nat} {m0 m : OV} {L : List (Nat × Nat × Nat × Nat)} (i : Nat) (k : KB 55 58 59 [58, 59] [1, 5, 6, 9, 11, 12, 13] [0, 7, 8] base m0 L b m) (hb : base + b < 700) (hi : i ∈ [0, 7, 8]) (hL : ∀ p ∈ L, (p.2.1 ≠ 1 → p.2.1 ≠ 1) ∧ (p.2.1 = 1 → ∀ j, j < p.2.2.2 → p.2.2.1 + j ∉ [i])) {post : OV → Prop} (hp : ∀ m', KB 55 58 59 [58, 59] [1, 5, 6, 9, 11, 12, 13] [0, 7, 8] base m0 (L ++ [(b, 1, i, 1)]) (b + 1) m' → post m') (x : Int32) : PX9_moves m x (fun r v => ∀ v7 : OV, v7 = sa v 1 (upd (v.2.1 1) i r) → post v7) := by
  refine mp_moveB k.2.1 k.2.2.1 hb (fun m1 f p => ?_)
  rintro _ rfl
  refine hp _ (KB_step (C' := [i]) (i0 := i) k (by decide) (by decide) (fun j hj => by rw [List.mem_singleton.mp hj]; exact hi) (by decide) (by decide) (by decide) hL (Fr_sc (by simp) (Fr_mono f (by simp) (by simp) (by simp) (by simp))) p (fun j hj => ?_))
  rw [show j = 0 by omega]
  show (sa m1 1 (upd (m1.2.1 1) i (m.2.1 55 (base + b)))).2.1 1 i = _
  rw [sa_at, upd_eq]
  rfl
theorem mvrB {base b gk n : Nat} {m0 m : OV} {L : List (Nat × Nat × Nat × Nat)} (k : KB 55 58 59 [58, 59] [1, 5, 6, 9, 11, 12, 13] [0, 7, 8] base m0 L b m) (hb : base + b + n ≤ 700) (hk : gk ≠ 55) (h1 : gk ≠ 1) (hA : gk ∈ [1, 5, 6, 9, 11, 12, 13]) (hL : ∀ p ∈ L, (p.2.1 ≠ 1 → p.2.1 ≠ gk) ∧ (p.2.1 = 1 → ∀ j, j < p.2.2.2 → p.2.2.1 + j ∉ ([] : List Nat))) {post : OV → Prop} (hp : ∀ m', KB 55 58 59 [58, 59] [1, 5, 6, 9, 11, 12, 13] [0, 7, 8] base m0 (L ++ [(b, gk, 0, n)]) (b + n) m' → post m') : PX9_movesRow m gk n post := by
  refine mp_moverB k.2.1 k.2.2.1 hb hk h1 (fun m1 f p c => hp m1 (KB_step (C' := []) (i0 := 0) k (by decide) hA (by simp) (by decide) (Ne.symm hk) (by decide) hL f p (fun j hj => ?_)))
  rw [Nat.zero_add, c j hj]
theorem crF {base b gk n : Nat} {m0 m : OV} {L : List (Nat × Nat × Nat × Nat)} (k : KF 63 65 66 [65, 66] [63, 56] base m0 L b m) (hb : base + b + n ≤ 4750) (hk : gk ≠ 63) (hg : ∀ j, j < n → m.2.1 gk j = m0.2.1 gk j) {post : OV → Prop} (hp : ∀ m', KF 63 65 66 [65, 66] [63, 56] base m0 (L ++ [(b, gk, 0, n)]) (b + n) m' → Fr [65] [63] [] [] m m' → post m') : PX9_carryRow m gk n post := by
  refine mp_carryF k.2.1 k.2.2.1 hb hk (fun m1 f p c o => hp m1 (KF_step (i0 := 0) k (by decide) (by decide) (by decide) (fun j hj => ?_) f p (fun j hj => ?_) o) f)
  · rw [Nat.zero_add]
    exact hg j hj
  · rw [c j hj, Nat.zero_add]
theorem crF' {base b gk n : Nat} {m0 m : OV} {L : List (Nat × Nat × Nat × Nat)} (k : KF 63 65 66 [65, 66] [63, 56] base m0 L b m) (hb : base + b + n ≤ 4750) (hk : gk ∉ [63, 56]) {post : OV → Prop} (hp : ∀ m', KF 63 65 66 [65, 66] [63, 56] base m0 (L ++ [(b, gk, 0, n)]) (b + n) m' → post m') : PX9_carryRow m gk n post := by
  refine crF k hb (fun e => hk (by rw [e]; simp)) (fun j _ => ?_) (fun m' k' _ => hp m' k')
  by_cases e : gk = 1
  · rw [e]
    exact k.1.2.2.1 j (by simp)
  · rw [k.1.2.1 gk hk e]
def BA : List Nat := [1, 5, 6, 9, 11, 12, 13, 56, 2, 3, 4, 7, 8, 10, 14, 15, 16, 17, 18, 19, 55]
def BC : List Nat := [0, 1, 2, 3, 4, 5, 6, 7, 8, 9, 10, 11]
theorem crB {I A : List Nat} {base b gk n : Nat} {m0 m : OV} {L : List (Nat × Nat × Nat × Nat)} (C' : List Nat) (k : KB 63 65 66 I A BC base m0 L b m) (hI : 65 ∈ I) (hb : base + b + n ≤ 4750) (hk : gk ≠ 63) (hA : gk ∈ A) (hC : ∀ j ∈ C', j ∈ BC) (hC1 : gk = 1 → ∀ j, j < n → j ∈ C') (hL : ∀ p ∈ L, (p.2.1 ≠ 1 → p.2.1 ≠ gk) ∧ (p.2.1 = 1 → ∀ j, j < p.2.2.2 → p.2.2.1 + j ∉ C')) {post : OV → Prop} (hp : ∀ m', KB 63 65 66 I A BC base m0 (L ++ [(b, gk, 0, n)]) (b + n) m' → m'.1 57 = m.1 57 → post m') : PX9_carryRow m gk n post := by
  refine mp_carryB (C := C') k.2.1 k.2.2.1 hb hk hC1 (fun m1 f p c => hp m1 (KB_step (C' := C') (i0 := 0) k hI hA hC (by decide) (Ne.symm hk) (by decide) hL f p (fun j hj => ?_)) (f.1 57 (by decide)))
  rw [Nat.zero_add, c j hj]
theorem KB_si {A : List Nat} {base b : Nat} {m0 m : OV} {L : List (Nat × Nat × Nat × Nat)} (x : Int32) (k : KB 63 65 66 [65, 66, 57] A BC base m0 L b m) : KB 63 65 66 [65, 66, 57] A BC base m0 L b (si m 57 x) := ⟨Fr_si (by decide) k.1, k.2.1, k.2.2.1, k.2.2.2.1, k.2.2.2.2⟩
theorem KB_56 {A : List Nat} {base b : Nat} {m0 m : OV} {L : List (Nat × Nat × Nat × Nat)} (f : Nat → Int32) (h : 56 ∈ A) (hL : ∀ p ∈ L, p.2.1 ≠ 56) (k : KB 63 65 66 [65, 66, 57] A BC base m0 L b m) : KB 63 65 66 [65, 66, 57] A BC base m0 L b (sa m 56 f) := ⟨Fr_sa h (by decide) k.1, k.2.1, k.2.2.1, fun p hp j hj => by
  rw [sa_ne m f (hL p hp)]
  exact k.2.2.2.1 p hp j hj, k.2.2.2.2⟩
theorem KF_56 {base b : Nat} {m0 m : OV} {L : List (Nat × Nat × Nat × Nat)} (f : Nat → Int32) (k : KF 63 65 66 [65, 66] [63, 56] base m0 L b m) : KF 63 65 66 [65, 66] [63, 56] base m0 L b (sa m 56 f) := ⟨Fr_sa (by decide) (by decide) k.1, k.2.1, k.2.2.1, k.2.2.2.1, k.2.2.2.2.1, k.2.2.2.2.2⟩
theorem nI_mul (c r : Nat) : nI c * nI r = nI (c * r) := (Int32.ofNat_mul c r).symm
theorem mp_movesF {m : OV} {r : Nat} (hr : r < 20) {post : OV → Prop} (hp : ∀ m', Fr [58, 59] [55] [] [] m m' → Cp 55 (35 * r) m m' LRow → (∀ j, j < 35 * r ∨ 35 * r + 35 ≤ j → m'.2.1 55 j = m.2.1 55 j) → post m') : PX9_movesAll m (nI r) 0 post := by
  unfold PX9_movesAll
  rintro _ rfl _ rfl _ rfl
  have k0 : KF 55 58 59 [58, 59] [55] (35 * r) m [] 0 (si (si m 58 (35 * nI r)) 59 0) := ⟨Fr_si (by decide) (Fr_si (by decide) Fr_refl), rfl, nI_mul 35 r, fun p hp => absurd hp (by simp), fun p hp => absurd hp (by simp), fun _ _ => rfl⟩
  refine mv1F 0 k0 (by omega) (fun m1 k1 => ?_)
  refine mv1F 7 k1 (by omega) (fun m2 k2 => ?_)
  refine mv1F 8 k2 (by omega) (fun m3 k3 => ?_)
  refine mvrF k3 (by omega) (by decide) (by decide) (fun m4 k4 => ?_)
  refine mvrF k4 (by omega) (by decide) (by decide) (fun m5 k5 => ?_)
  refine mvrF k5 (by omega) (by decide) (by decide) (fun m6 k6 => ?_)
  refine mvrF k6 (by omega) (by decide) (by decide) (fun m7 k7 => ?_)
  refine mvrF k7 (by omega) (by decide) (by decide) (fun m8 k8 => ?_)
  refine mvrF k8 (by omega) (by decide) (by decide) (fun m9 k9 => ?_)
  exact hp m9 k9.1 k9.2.2.2.1 k9.2.2.2.2.2
theorem mp_movesB {m : OV} {r : Nat} (hr : r < 20) {post : OV → Prop} (hp : ∀ m', Fr [58, 59] [5, 6, 9, 11, 12, 13] [0, 7, 8] [] m m' → Ld 55 (35 * r) m m' LRow → post m') : PX9_movesAll m (nI r) 1 post := by
  unfold PX9_movesAll
  rintro _ rfl _ rfl _ rfl
  have k0 : KB 55 58 59 [58, 59] [1, 5, 6, 9, 11, 12, 13] [0, 7, 8] (35 * r) m [] 0 (si (si m 58 (35 * nI r)) 59 1) := ⟨Fr_si (by decide) (Fr_si (by decide) Fr_refl), rfl, nI_mul 35 r, fun p hp => absurd hp (by simp), rfl⟩
  refine mv1B 0 k0 (by omega) (by decide) (by decide) (fun m1 k1 => ?_) _
  refine mv1B 7 k1 (by omega) (by decide) (by decide) (fun m2 k2 => ?_) _
  refine mv1B 8 k2 (by omega) (by decide) (by decide) (fun m3 k3 => ?_) _
  refine mvrB k3 (by omega) (by decide) (by decide) (by decide) (by decide) (fun m4 k4 => ?_)
  refine mvrB k4 (by omega) (by decide) (by decide) (by decide) (by decide) (fun m5 k5 => ?_)
  refine mvrB k5 (by omega) (by decide) (by decide) (by decide) (by decide) (fun m6 k6 => ?_)
  refine mvrB k6 (by omega) (by decide) (by decide) (by decide) (by decide) (fun m7 k7 => ?_)
  refine mvrB k7 (by omega) (by decide) (by decide) (by decide) (by decide) (fun m8 k8 => ?_)
  refine mvrB k8 (by omega) (by decide) (by decide) (by decide) (by decide) (fun m9 k9 => ?_)
  refine hp m9 ⟨k9.1.1, fun j hj n => k9.1.2.1 j (fun y => ?_) n, k9.1.2.2.1, k9.1.2.2.2⟩ k9.2.2.2.1
  rcases List.mem_cons.mp y with z | z
  · exact n z
  · exact hj z
theorem mp_keepsAll {m : OV} {post : OV → Prop} (hp : ∀ m', Fr [65, 66] [63, 56] [] [] m m' → Cp 63 3800 m m' LCur → (∀ j, j < 3800 → m'.2.1 63 j = m.2.1 63 j) → post m') : PX9_keepsAll m post := by
  unfold PX9_keepsAll PX9_carriesAll
  rintro _ rfl _ rfl _ rfl
  have k0 : KF 63 65 66 [65, 66] [63, 56] 3800 m [] 0 (si (si m 65 (950 * 4)) 66 0) := ⟨Fr_si (by decide) (Fr_si (by decide) Fr_refl), rfl, rfl, fun p hp => absurd hp (by simp), fun p hp => absurd hp (by simp), fun _ _ => rfl⟩
  refine crF' k0 (by omega) (by decide) (fun m1 k1 => ?_)
  refine crF' k1 (by omega) (by decide) (fun m2 k2 => ?_)
  refine crF' k2 (by omega) (by decide) (fun m3 k3 => ?_)
  refine crF' k3 (by omega) (by decide) (fun m4 k4 => ?_)
  refine crF' k4 (by omega) (by decide) (fun m5 k5 => ?_)
  refine crF' k5 (by omega) (by decide) (fun m6 k6 => ?_)
  refine crF' k6 (by omega) (by decide) (fun m7 k7 => ?_)
  exact br_nt rfl (hp m7 k7.1 k7.2.2.2.1 (fun j hj => k7.2.2.2.2.2 j (Or.inl hj)))
theorem mp_laysBack {m : OV} {post : OV → Prop} (hp : ∀ m', Fr [65, 66] [1, 5, 6, 9, 11, 12, 13] BC [] m m' → Ld 63 3800 m m' LCur → post m') : PX9_laysBack m post := by
  unfold PX9_laysBack PX9_carriesAll
  rintro _ rfl _ rfl _ rfl
  have k0 : KB 63 65 66 [65, 66] [1, 5, 6, 9, 11, 12, 13] BC 3800 m [] 0 (si (si m 65 (950 * 4)) 66 1) := ⟨Fr_si (by decide) (Fr_si (by decide) Fr_refl), rfl, rfl, fun p hp => absurd hp (by simp), rfl⟩
  refine crB BC k0 (by decide) (by omega) (by decide) (by decide) (by decide) (by decide) (by decide) (fun m1 k1 _ => ?_)
  refine crB [] k1 (by decide) (by omega) (by decide) (by decide) (by decide) (by decide) (by decide) (fun m2 k2 _ => ?_)
  refine crB [] k2 (by decide) (by omega) (by decide) (by decide) (by decide) (by decide) (by decide) (fun m3 k3 _ => ?_)
  refine crB [] k3 (by decide) (by omega) (by decide) (by decide) (by decide) (by decide) (by decide) (fun m4 k4 _ => ?_)
  refine crB [] k4 (by decide) (by omega) (by decide) (by decide) (by decide) (by decide) (by decide) (fun m5 k5 _ => ?_)
  refine crB [] k5 (by decide) (by omega) (by decide) (by decide) (by decide) (by decide) (by decide) (fun m6 k6 _ => ?_)
  refine crB [] k6 (by decide) (by omega) (by decide) (by decide) (by decide) (by decide) (by decide) (fun m7 k7 _ => ?_)
  exact br_nt rfl (hp m7 k7.1 k7.2.2.2.1)
theorem mp_imageF {m : OV} {r : Nat} (hr : r < 4) {post : OV → Prop} (hp : ∀ m', Fr [65, 66] [63, 56] [] [] m m' → Cp 63 (950 * r) (sa m 56 (upd (m.2.1 56) 0 (m.1 57))) m' LImg → (∀ j, j < 950 * r ∨ 950 * r + 827 ≤ j → m'.2.1 63 j = m.2.1 63 j) → post m') : PX9_carriesAll m (nI r) 0 post := by
  unfold PX9_carriesAll
  rintro _ rfl _ rfl _ rfl
  have h0 : Fr [65, 66] [63, 56] [] [] (sa m 56 (upd (m.2.1 56) 0 (m.1 57))) m := ⟨fun _ _ => rfl, fun k e n => (sa_ne m _ (fun q => e (by rw [q]; simp))).symm, fun j _ => rfl, fun _ _ => rfl⟩
  have h1 : Fr [65, 66] [63, 56] [] [] m (sa m 56 (upd (m.2.1 56) 0 (m.1 57))) := Fr_sa (by decide) (by decide) Fr_refl
  have k0 : KF 63 65 66 [65, 66] [63, 56] (950 * r) (sa m 56 (upd (m.2.1 56) 0 (m.1 57))) [] 0 (si (si m 65 (950 * nI r)) 66 0) := ⟨Fr_si (by decide) (Fr_si (by decide) h0), rfl, nI_mul 950 r, fun p hp => absurd hp (by simp), fun p hp => absurd hp (by simp), fun _ _ => rfl⟩
  refine crF' k0 (by omega) (by decide) (fun m1 k1 => ?_)
  refine crF' k1 (by omega) (by decide) (fun m2 k2 => ?_)
  refine crF' k2 (by omega) (by decide) (fun m3 k3 => ?_)
  refine crF' k3 (by omega) (by decide) (fun m4 k4 => ?_)
  refine crF' k4 (by omega) (by decide) (fun m5 k5 => ?_)
  refine crF' k5 (by omega) (by decide) (fun m6 k6 => ?_)
  refine crF' k6 (by omega) (by decide) (fun m7 k7 => ?_)
  refine br_nf (fun e => absurd (nI_inj (a := r) (b := 4) (by omega) (by omega) e) (by omega)) ?_
  rintro _ rfl _ rfl
  have e7 : m7.1 57 = m.1 57 := k7.1.1 57 (by decide)
  refine crF (KF_56 (upd (m7.2.1 56) 0 (m7.1 57)) k7) (by omega) (by decide) (fun j hj => ?_) (fun m8 k8 f8 => ?_)
  · rw [sa_at, sa_at, show j = 0 by omega, upd_eq, upd_eq, e7]
  have e8 : m8.2.1 56 ((0 : Int32)).toNatClampNeg = m8.1 57 := by
    rw [f8.2.1 56 (by decide) (by decide), f8.1 57 (by decide), sa_at]
    exact upd_eq _ _ _
  rw [e8]
  rintro _ rfl _ rfl
  rw [si_self]
  refine crF' k8 (by omega) (by decide) (fun m9 k9 => ?_)
  refine crF' k9 (by omega) (by decide) (fun m10 k10 => ?_)
  refine crF' k10 (by omega) (by decide) (fun m11 k11 => ?_)
  refine crF' k11 (by omega) (by decide) (fun m12 k12 => ?_)
  refine crF' k12 (by omega) (by decide) (fun m13 k13 => ?_)
  refine crF' k13 (by omega) (by decide) (fun m14 k14 => ?_)
  refine crF' k14 (by omega) (by decide) (fun m15 k15 => ?_)
  refine crF' k15 (by omega) (by decide) (fun m16 k16 => ?_)
  refine crF' k16 (by omega) (by decide) (fun m17 k17 => ?_)
  refine crF' k17 (by omega) (by decide) (fun m18 k18 => ?_)
  refine crF' k18 (by omega) (by decide) (fun m19 k19 => ?_)
  refine crF' k19 (by omega) (by decide) (fun m20 k20 => ?_)
  refine crF' k20 (by omega) (by decide) (fun m21 k21 => ?_)
  exact hp m21 (Fr_trans h1 k21.1) k21.2.2.2.1 (fun j hj => k21.2.2.2.2.2 j hj)
theorem mp_imageB {m : OV} {r : Nat} (hr : r < 4) {post : OV → Prop} (hp : ∀ m', Fr [65, 66, 57] BA BC [] m m' → Ld 63 (950 * r) m m' LImg → m'.1 57 = m.2.1 63 (950 * r + 44) → post m') : PX9_carriesAll m (nI r) 1 post := by
  unfold PX9_carriesAll
  rintro _ rfl _ rfl _ rfl
  have k0 : KB 63 65 66 [65, 66, 57] BA BC (950 * r) m [] 0 (si (si m 65 (950 * nI r)) 66 1) := ⟨Fr_si (by decide) (Fr_si (by decide) Fr_refl), rfl, nI_mul 950 r, fun p hp => absurd hp (by simp), rfl⟩
  refine crB BC k0 (by decide) (by omega) (by decide) (by decide) (by decide) (by decide) (by decide) (fun m1 k1 _ => ?_)
  refine crB [] k1 (by decide) (by omega) (by decide) (by decide) (by decide) (by decide) (by decide) (fun m2 k2 _ => ?_)
  refine crB [] k2 (by decide) (by omega) (by decide) (by decide) (by decide) (by decide) (by decide) (fun m3 k3 _ => ?_)
  refine crB [] k3 (by decide) (by omega) (by decide) (by decide) (by decide) (by decide) (by decide) (fun m4 k4 _ => ?_)
  refine crB [] k4 (by decide) (by omega) (by decide) (by decide) (by decide) (by decide) (by decide) (fun m5 k5 _ => ?_)
  refine crB [] k5 (by decide) (by omega) (by decide) (by decide) (by decide) (by decide) (by decide) (fun m6 k6 _ => ?_)
  refine crB [] k6 (by decide) (by omega) (by decide) (by decide) (by decide) (by decide) (by decide) (fun m7 k7 _ => ?_)
  refine br_nf (fun e => absurd (nI_inj (a := r) (b := 4) (by omega) (by omega) e) (by omega)) ?_
  rintro _ rfl _ rfl
  refine crB [] (KB_56 (upd (m7.2.1 56) 0 (m7.1 57)) (by decide) (by decide) k7) (by decide) (by omega) (by decide) (by decide) (by decide) (by decide) (by decide) (fun m8 k8 _ => ?_)
  have e8 : m8.2.1 56 ((0 : Int32)).toNatClampNeg = m.2.1 63 (950 * r + 44) := k8.2.2.2.1 (44, 56, 0, 1) (by simp) 0 (by decide)
  rw [e8]
  rintro _ rfl _ rfl
  have k8b := KB_si (m.2.1 63 (950 * r + 44)) k8
  have e8b : (si m8 57 (m.2.1 63 (950 * r + 44))).1 57 = m.2.1 63 (950 * r + 44) := rfl
  refine crB [] k8b (by decide) (by omega) (by decide) (by decide) (by decide) (by decide) (by decide) (fun m9 k9 f9 => ?_)
  have e9 := f9.trans e8b
  refine crB [] k9 (by decide) (by omega) (by decide) (by decide) (by decide) (by decide) (by decide) (fun m10 k10 f10 => ?_)
  have e10 := f10.trans e9
  refine crB [] k10 (by decide) (by omega) (by decide) (by decide) (by decide) (by decide) (by decide) (fun m11 k11 f11 => ?_)
  have e11 := f11.trans e10
  refine crB [] k11 (by decide) (by omega) (by decide) (by decide) (by decide) (by decide) (by decide) (fun m12 k12 f12 => ?_)
  have e12 := f12.trans e11
  refine crB [] k12 (by decide) (by omega) (by decide) (by decide) (by decide) (by decide) (by decide) (fun m13 k13 f13 => ?_)
  have e13 := f13.trans e12
  refine crB [] k13 (by decide) (by omega) (by decide) (by decide) (by decide) (by decide) (by decide) (fun m14 k14 f14 => ?_)
  have e14 := f14.trans e13
  refine crB [] k14 (by decide) (by omega) (by decide) (by decide) (by decide) (by decide) (by decide) (fun m15 k15 f15 => ?_)
  have e15 := f15.trans e14
  refine crB [] k15 (by decide) (by omega) (by decide) (by decide) (by decide) (by decide) (by decide) (fun m16 k16 f16 => ?_)
  have e16 := f16.trans e15
  refine crB [] k16 (by decide) (by omega) (by decide) (by decide) (by decide) (by decide) (by decide) (fun m17 k17 f17 => ?_)
  have e17 := f17.trans e16
  refine crB [] k17 (by decide) (by omega) (by decide) (by decide) (by decide) (by decide) (by decide) (fun m18 k18 f18 => ?_)
  have e18 := f18.trans e17
  refine crB [] k18 (by decide) (by omega) (by decide) (by decide) (by decide) (by decide) (by decide) (fun m19 k19 f19 => ?_)
  have e19 := f19.trans e18
  refine crB [] k19 (by decide) (by omega) (by decide) (by decide) (by decide) (by decide) (by decide) (fun m20 k20 f20 => ?_)
  have e20 := f20.trans e19
  refine crB [] k20 (by decide) (by omega) (by decide) (by decide) (by decide) (by decide) (by decide) (fun m21 k21 f21 => ?_)
  have e21 := f21.trans e20
  exact hp m21 k21.1 k21.2.2.2.1 e21
