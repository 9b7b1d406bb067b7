/-! 90: a hill's text by the class -/
theorem sk_self {B : Nat → Nat} {L p : Nat} (hp : p ≤ L) (h : p < L → ¬ B p = 32) : sk B L p = p := fw_self hp h
theorem sk_sk {B : Nat → Nat} {L p : Nat} (hp : p ≤ L) : sk B L (sk B L p) = sk B L p := by
  obtain ⟨s1, s2, s3, s4⟩ := fw_ok (isBl B) hp
  exact sk_self s2 s4
theorem chr_n1 {B : Nat → Nat} {L q : Nat} (hb : q < L → B q < 256) : chr B L q = -1 ↔ ¬ q < L := by
  unfold chr
  by_cases c : q < L
  · rw [if_pos c]
    exact ⟨fun e => absurd e (nI_n1 (by have := hb c; omega)), fun y => absurd c y⟩
  · rw [if_neg c]
    exact ⟨fun _ => c, fun _ => rfl⟩
theorem chr_eq {B : Nat → Nat} {L q w : Nat} (hw : w < 256) (hb : q < L → B q < 256) : chr B L q = nI w ↔ q < L ∧ B q = w := by
  unfold chr
  by_cases c : q < L
  · rw [if_pos c]
    exact ⟨fun e => ⟨c, nI_inj (by have := hb c; omega) (by omega) e⟩, fun y => by rw [y.2]⟩
  · rw [if_neg c]
    exact ⟨fun e => absurd e.symm (nI_n1 (by omega)), fun y => absurd y.1 c⟩
theorem cp_take {r t m : OV} {B : Nat → Nat} {L p w : Nat} {f : Int32} (tx : TX B L t m) (hw : w < 256) (hp : p ≤ L) (h : RD r L p f) {post : OV → Prop} (h1 : sk B L p < L → B (sk B L p) = w → ∀ r', RD r' L (sk B L p + 1) f → post r') (h0 : ¬ (sk B L p < L ∧ B (sk B L p) = w) → ∀ r', RD r' L (sk B L p) (fst0 f (flt (sk B L p) 0)) → post r') : PX2_take r t (nI w) post := by
  have l4 := tx.1
  have sp : sk B L p ≤ L := (fw_ok (isBl B) hp).2.1
  unfold PX2_take
  refine cp_next tx hp h (fun r1 hr1 => ?_)
  have ce := chr_eq (B := B) (L := L) (q := sk B L p) hw (fun c => (tx.2 _ c).1)
  refine br_nc (fun e => ?_) (fun e => ?_)
  · rw [hr1.2.1]
    exact cp_failAt (k := 0) hr1 (fun r' h' => h0 (fun y => e (ce.mpr y)) r' h')
  · have y := ce.mp e
    exact cp_pass (n := 1) hr1 l4 (by omega) (fun r' h' => h1 y.1 y.2 r' h')
theorem cp_hasNext {r t m : OV} {B : Nat → Nat} {L p : Nat} (tx : TX B L t m) (hp : p ≤ L) (h : RD r L p 0) {post : Int32 → OV → Prop} (he : ¬ sk B L p < L → ∀ r', RD r' L (sk B L p) 0 → post 0 r') (hs : sk B L p < L → B (sk B L p) = 59 → ∀ r', RD r' L (sk B L p + 1) 0 → post 1 r') (hf : sk B L p < L → ¬ B (sk B L p) = 59 → ∀ r', RD r' L (sk B L p) (flt (sk B L p) 0) → post 0 r') : PX2_hasNextClause r t post := by
  have l4 := tx.1
  have sp : sk B L p ≤ L := (fw_ok (isBl B) hp).2.1
  have cn := chr_n1 (B := B) (L := L) (q := sk B L p) (fun c => (tx.2 _ c).1)
  unfold PX2_hasNextClause
  refine br_nt h.2.2 (cp_next tx hp h (fun r1 hr1 => br_nc (fun e => ?_) (fun e => he (cn.mp e) r1 hr1)))
  have c : sk B L p < L := Classical.byContradiction (fun y => e (cn.mpr y))
  refine cp_take (w := 59) tx (by omega) sp hr1 (fun c1 c2 r2 h2 => ?_) (fun c1 r2 h2 => ?_)
  · rw [sk_sk hp] at c1 c2 h2
    exact br_nt h2.2.2 (hs c1 c2 r2 h2)
  · rw [sk_sk hp] at c1 h2
    rw [fst_z] at h2
    exact br_nf (by rw [h2.2.2]; exact flt_ne (k := 0) (by omega) (by omega)) (hf c (fun y => c1 ⟨c, y⟩) r2 h2)
/-- a hill's text from the i-th clause on: its fault; where that is 0, the hill told and its counts -/
def HR (B : Nat → Nat) (L : Nat) : Nat → Nat → Nat → OV → Nat → Nat → Nat → Nat → Int32 → OV → Nat → Nat → Nat → Nat → Prop
  | 0, _, _, _, _, _, _, _, _, _, _, _, _, _ => False
  | k + 1, i, p, h, S, T, Q, K, F, h', S', T', Q', K' => ∃ F1 p1 h1, ClS B L i p h S T Q K F1 p1 h1 ∧ p1 ≤ L ∧ ((¬ F1 = 0 ∧ F = F1) ∨ (F1 = 0 ∧ ∃ S1 T1 Q1 K1, HC h1 S1 T1 Q1 K1 ∧ ((¬ sk B L p1 < L ∧ F = 0 ∧ h' = h1 ∧ S' = S1 ∧ T' = T1 ∧ Q' = Q1 ∧ K' = K1) ∨ (sk B L p1 < L ∧ ¬ B (sk B L p1) = 59 ∧ F = flt (sk B L p1) 0) ∨ (sk B L p1 < L ∧ B (sk B L p1) = 59 ∧ HR B L k (i + 1) (sk B L p1 + 1) h1 S1 T1 Q1 K1 F h' S' T' Q' K'))))
theorem HR_s {B : Nat → Nat} {L k i p : Nat} {h : OV} {S T Q K : Nat} {F : Int32} {h' : OV} {S' T' Q' K' : Nat} : HR B L (k + 1) i p h S T Q K F h' S' T' Q' K' ↔ (∃ F1 p1 h1, ClS B L i p h S T Q K F1 p1 h1 ∧ p1 ≤ L ∧ ((¬ F1 = 0 ∧ F = F1) ∨ (F1 = 0 ∧ ∃ S1 T1 Q1 K1, HC h1 S1 T1 Q1 K1 ∧ ((¬ sk B L p1 < L ∧ F = 0 ∧ h' = h1 ∧ S' = S1 ∧ T' = T1 ∧ Q' = Q1 ∧ K' = K1) ∨ (sk B L p1 < L ∧ ¬ B (sk B L p1) = 59 ∧ F = flt (sk B L p1) 0) ∨ (sk B L p1 < L ∧ B (sk B L p1) = 59 ∧ HR B L k (i + 1) (sk B L p1 + 1) h1 S1 T1 Q1 K1 F h' S' T' Q' K'))))) := by rw [HR]
theorem HC_next {B : Nat → Nat} {L i p : Nat} {h : OV} {S T Q K : Nat} {F : Int32} {p' : Nat} {h' : OV} (hL : L ≤ 400) (hp : p ≤ L) (hc : HC h S T Q K) (c : ClS B L i p h S T Q K F p' h') (e : F = 0) : i < 40 ∧ ∃ S1 T1 Q1 K1, HC h' S1 T1 Q1 K1 := by
  have sp : sk B L p ≤ L := (fw_ok (isBl B) hp).2.1
  obtain ⟨l1, l2, l3, l4, e4, e9, e11, e16⟩ := hc
  rcases c with ⟨_, f⟩ | ⟨k, _, _, f⟩ | ⟨k, kk, nf, f, _, rfl⟩
  · rw [f] at e
    exact absurd e (flt_ne (k := 0) (by omega) (by omega))
  · rw [f] at e
    exact absurd e (flt_ne (k := 4) (by omega) (by omega))
  · have hk := kk.1
    have n40 : ¬ 40 ≤ i := fun y => nf (Or.inl y)
    have nfu : ¬ fulC k S T Q K := fun y => nf (Or.inr (Or.inr y))
    refine ⟨by omega, ?_⟩
    have kc : k = 0 ∨ k = 1 ∨ k = 2 ∨ k = 3 ∨ k = 4 ∨ k = 5 := by omega
    unfold fulC at nfu
    rcases kc with rfl | rfl | rfl | rfl | rfl | rfl
    · exact ⟨S, T, Q, K, l1, l2, l3, l4, e4, e9, e11, e16⟩
    · exact ⟨S + 1, T, Q, K, by omega, l2, l3, l4, by show h.1 4 + 1 = _; rw [e4, nI_1], e9, e11, e16⟩
    · exact ⟨S, T, Q, K, l1, l2, l3, l4, e4, e9, e11, e16⟩
    · exact ⟨S, T + 1, Q, K, l1, by omega, l3, l4, e4, by show h.1 9 + 1 = _; rw [e9, nI_1], e11, e16⟩
    · exact ⟨S, T, Q + 1, K, l1, l2, by omega, l4, e4, e9, by show h.1 11 + 1 = _; rw [e11, nI_1], e16⟩
    · exact ⟨S, T, Q, K + 1, l1, l2, l3, by omega, e4, e9, e11, by show h.1 16 + 1 = _; rw [e16, nI_1]⟩
theorem cp_hrun {g t m : OV} {B : Nat → Nat} {L : Nat} (tx : TX B L t m) {post : Int32 → OV → OV → Prop} : ∀ k i, i + k = 41 → i ≤ 40 → ∀ r p h S T Q K, p ≤ L → RD r L p 0 → HC h S T Q K → (∀ F h' S' T' Q' K', HR B L k i p h S T Q K F h' S' T' Q' K' → ∀ r' h'', (F = 0 → h'' = si h' 0 1) → post F r' h'') → PX1_read_L15 g t post (k + 2) 1 (nI i) r h
  | 0, i, hi, hi2, _, _, _, _, _, _, _, _, _, _, _ => absurd hi2 (by omega)
  | k + 1, i, hi, hi2, r, p, h, S, T, Q, K, hp, rd, hc, hq => by
    have l4 := tx.1
    show PX1_read_L15 g t post (k + 2 + 1) 1 (nI i) r h
    unfold PX1_read_L15
    refine br_f (nI_nlt (a := 40) hi2 (by omega)) (br_f (by decide) ?_)
    refine cp_readClause tx (by omega) hp rd hc (fun r1 F1 p1 h1 c1 hp1 rd1 _ => ?_)
    have stop : ∀ r2 h2 F, r2.1 3 = F → (∀ h'', (F = 0 → h'' = si h2 0 1) → post F r2 h'') → PX1_read_L15 g t post (k + 2) 0 (nI (i + 1)) r2 h2 := by
      intro r2 h2 F e3 hx
      have b49 : PX1_read_b49 g t post r2 h2 := by
        unfold PX1_read_b49 PX1_read_b65
        rw [e3]
        refine br_nc (fun e => ?_) (fun e => ?_)
        · rintro _ rfl
          exact hx _ (fun y => absurd y e)
        · rintro _ rfl
          exact hx _ (fun _ => rfl)
      unfold PX1_read_L15
      exact br_c (fun _ => b49) (fun _ => br_t rfl b49)
    by_cases f0 : F1 = 0
    · rw [f0] at rd1
      obtain ⟨i40, S1, T1, Q1, K1, hc1⟩ := HC_next l4 hp hc c1 f0
      refine cp_hasNext tx hp1 rd1 (fun a r2 h2 => ?_) (fun a b r2 h2 => ?_) (fun a b r2 h2 => ?_)
      · rw [nI_1]
        rintro _ rfl
        refine stop r2 h1 0 h2.2.2 (fun h'' eh => hq 0 h1 S1 T1 Q1 K1 (HR_s.mpr ⟨F1, p1, h1, c1, hp1, Or.inr ⟨f0, S1, T1, Q1, K1, hc1, Or.inl ⟨a, rfl, rfl, rfl, rfl, rfl, rfl⟩⟩⟩) r2 h'' eh)
      · rw [nI_1]
        rintro _ rfl
        exact cp_hrun tx k (i + 1) (by omega) (by omega) r2 (sk B L p1 + 1) h1 S1 T1 Q1 K1 (by omega) h2 hc1 (fun F h' S' T' Q' K' hr r' h'' eh => hq F h' S' T' Q' K' (HR_s.mpr ⟨F1, p1, h1, c1, hp1, Or.inr ⟨f0, S1, T1, Q1, K1, hc1, Or.inr (Or.inr ⟨a, b, hr⟩)⟩⟩) r' h'' eh)
      · rw [nI_1]
        rintro _ rfl
        have ne0 : ¬ flt (sk B L p1) 0 = 0 := flt_ne (k := 0) (by omega) (by omega)
        refine stop r2 h1 (flt (sk B L p1) 0) h2.2.2 (fun h'' _ => hq _ h1 0 0 0 0 (HR_s.mpr ⟨F1, p1, h1, c1, hp1, Or.inr ⟨f0, S1, T1, Q1, K1, hc1, Or.inr (Or.inl ⟨a, b, rfl⟩)⟩⟩) r2 h'' (fun y => absurd y ne0))
    · unfold PX2_hasNextClause
      refine br_nf (by rw [rd1.2.2]; exact f0) ?_
      rw [nI_1]
      rintro _ rfl
      exact stop r1 h1 F1 rd1.2.2 (fun h'' _ => hq F1 h1 0 0 0 0 (HR_s.mpr ⟨F1, p1, h1, c1, hp1, Or.inl ⟨f0, rfl⟩⟩) r1 h'' (fun y => absurd y f0))
theorem cp_hread {g r t m : OV} {B : Nat → Nat} {L : Nat} (tx : TX B L t m) {post : Int32 → OV → OV → Prop} (hq : ∀ F h' S' T' Q' K', HR B L 41 0 0 v0X0 0 0 0 0 F h' S' T' Q' K' → ∀ r' h'', (F = 0 → h'' = si h' 0 1) → post F r' h'') : PX1_read g r t v0X0 (nI L) post := by
  have l4 := tx.1
  unfold PX1_read PX2_open
  have e : (if (400 : Int32) < nI L then (400 : Int32) else nI L) = nI L := if_neg (nI_nlt (a := 400) l4 (by omega))
  rw [e]
  rintro _ rfl _ rfl _ rfl _ rfl
  exact ⟨43, cp_hrun tx 41 0 (by omega) (by omega) _ 0 v0X0 0 0 0 0 (Nat.zero_le L) ⟨rfl, rfl, rfl⟩ ⟨by omega, by omega, by omega, by omega, rfl, rfl, rfl, rfl⟩ hq⟩
