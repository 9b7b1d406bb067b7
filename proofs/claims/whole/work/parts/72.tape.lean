/-! 72: the tape -/
theorem nar_byte (x : Int32) : vp_nar .byte x = x.toInt8.toInt32 := rfl
theorem nar_b8 (x : Int32) : vp_nar .byte (x.toInt8.toInt32) = x.toInt8.toInt32 := by
  rw [nar_byte, Int8.toInt8_toInt32]
theorem and255 (z : Int32) : ∃ b, b < 256 ∧ z &&& 255 = nI b := by
  refine ⟨(z &&& 255).toBitVec.toNat, ?_, ?_⟩
  · rw [Int32.toBitVec_and, BitVec.toNat_and]
    exact Nat.lt_of_le_of_lt Nat.and_le_right (by decide)
  · exact Int32.toBitVec_inj.mp (BitVec.eq_of_toNat_eq (by
      show (z &&& 255).toBitVec.toNat = (BitVec.ofNat 32 (z &&& 255).toBitVec.toNat).toNat
      rw [BitVec.toNat_ofNat, Nat.mod_eq_of_lt (BitVec.isLt _)]))
theorem i8_ext {x y : Int32} (h : ∀ i, i < 8 → bt x i = bt y i) : x.toInt8 = y.toInt8 := by
  refine Int8.toBitVec_inj.mp ?_
  rw [Int32.toBitVec_toInt8, Int32.toBitVec_toInt8]
  refine BitVec.eq_of_getLsbD_eq (fun i hi => ?_)
  rw [BitVec.getLsbD_signExtend, BitVec.getLsbD_signExtend]
  have h' := h i hi
  unfold bt at h'
  rw [if_pos (show i < 32 by omega), if_pos (show i < 32 by omega), h']
/-- the byte that both take from a number, as the class and as the reference keep it -/
theorem byte_at (x : Int32) (k : Nat) (hk : k ≤ 24) : ∃ b, b < 256 ∧ (((x.toUInt32 >>> ((nI k).toUInt32 &&& Int32.toUInt32 31)).toInt32) &&& 255) = nI b ∧ vp_nar .byte ((x >>> (nI k &&& 31)).toInt8.toInt32) = sgn8 b := by
  obtain ⟨b, hb, e⟩ := and255 (((x.toUInt32 >>> ((nI k).toUInt32 &&& Int32.toUInt32 31)).toInt32))
  refine ⟨b, hb, e, ?_⟩
  rw [nar_b8]
  unfold sgn8
  rw [← e]
  congr 1
  refine i8_ext (fun i hi => ?_)
  rw [b_sshr k (by omega) x (by omega), if_pos (show k + i < 32 by omega), b_and, b_ushr k (by omega), b_255, decide_eq_true hi, Bool.and_true]
theorem Tap_step {t m : OV} {L b : Nat} (hL : L < 400) (hb : b < 256) (t1 : t.1 1 = nI L) (m1 : m.1 30 = nI L) (old : ∀ i, i < L → ∃ b, b < 256 ∧ t.2.1 0 i = nI b ∧ m.2.1 40 i = sgn8 b) : ∀ i, i < L + 1 → ∃ b', b' < 256 ∧ upd (t.2.1 0) L (nI b) i = nI b' ∧ upd (m.2.1 40) L (sgn8 b) i = sgn8 b' := by
  intro i hi
  by_cases e : i = L
  · exact ⟨b, hb, by rw [e, upd_eq], by rw [e, upd_eq]⟩
  · rw [upd_ne _ _ e, upd_ne _ _ e]
    exact old i (by omega)
/-- the class's tape before the reference's: what is put on is the same bytes -/
def Byt (t t' : OV) (L : Nat) (x : Int32) : Prop := t'.1 1 = nI (L + 4) ∧ (∀ k, k ≠ 1 → t'.1 k = t.1 k) ∧ (∀ k, k ≠ 0 → t'.2.1 k = t.2.1 k) ∧ (∀ i, i < L → t'.2.1 0 i = t.2.1 0 i) ∧ ∀ j, j < 4 → t'.2.1 0 (L + j) = (((x.toUInt32 >>> ((nI (24 - 8 * j)).toUInt32 &&& Int32.toUInt32 31)).toInt32) &&& 255)
theorem n24 : ∀ j, j < 4 → nI (24 - 8 * j) + (-8) = (if j = 3 then (-8 : Int32) else nI (24 - 8 * (j + 1))) := by decide +kernel
theorem cp_append {t : OV} {L : Nat} {x : Int32} (hL : L + 4 ≤ 400) (t1 : t.1 1 = nI L) {post : OV → Prop} (hp : ∀ t', Byt t t' L x → post t') : PX8_append t x post := by
  unfold PX8_append
  refine fr_rel (fun n j t' => PX8_append_L3 post n x (if j = 4 then (-8 : Int32) else nI (24 - 8 * j)) t') (fun j t' => t'.1 1 = nI (L + j) ∧ (∀ k, k ≠ 1 → t'.1 k = t.1 k) ∧ (∀ k, k ≠ 0 → t'.2.1 k = t.2.1 k) ∧ (∀ i, i < L → t'.2.1 0 i = t.2.1 0 i) ∧ ∀ i, i < j → t'.2.1 0 (L + i) = (((x.toUInt32 >>> ((nI (24 - 8 * i)).toUInt32 &&& Int32.toUInt32 31)).toInt32) &&& 255)) 4 t ⟨t1, fun _ _ => rfl, fun _ _ => rfl, fun _ _ => rfl, fun i hi => absurd hi (Nat.not_lt_zero i)⟩ ?_ ?_
  · rintro n t' ⟨a, b, c, d, e⟩
    show PX8_append_L3 post (n + 1) x (-8 : Int32) t'
    unfold PX8_append_L3
    exact br_t (by decide) (hp t' ⟨a, b, c, d, e⟩)
  · rintro n j t' hj ⟨a, b, c, d, e⟩ next
    show PX8_append_L3 post (n + 1) x (if j = 4 then (-8 : Int32) else nI (24 - 8 * j)) t'
    rw [if_neg (show ¬ j = 4 by omega)]
    unfold PX8_append_L3
    rw [a, nI_31 (show L + j < 1000 by omega)]
    refine br_f (nI_pos (by omega)) (br_f (fr_nle (b := 400) (by omega) (by omega)) ?_)
    rintro _ rfl
    refine ⟨vp_in_q (by omega) (by omega), ?_⟩
    rintro _ rfl
    rw [show (sa t' 0 (upd (t'.2.1 0) (L + j) (((x.toUInt32 >>> ((nI (24 - 8 * j)).toUInt32 &&& Int32.toUInt32 31)).toInt32) &&& 255))).1 1 = nI (L + j) from a, nI_1]
    rintro _ rfl _ rfl _ rfl
    rw [n24 j hj]
    have nx := next (si (sa t' 0 (upd (t'.2.1 0) (L + j) (((x.toUInt32 >>> ((nI (24 - 8 * j)).toUInt32 &&& Int32.toUInt32 31)).toInt32) &&& 255))) 1 (nI (L + j + 1))) ⟨rfl, fun k hk => (si_ne _ _ hk).trans (b k hk), fun k hk => (sa_ne _ _ hk).trans (c k hk), fun i hi => ?_, fun i hi => ?_⟩
    · have ej : (if j + 1 = 4 then (-8 : Int32) else nI (24 - 8 * (j + 1))) = (if j = 3 then (-8 : Int32) else nI (24 - 8 * (j + 1))) := by
        by_cases g : j = 3
        · rw [if_pos g, if_pos (by omega)]
        · rw [if_neg g, if_neg (by omega)]
      rw [ej] at nx
      exact nx
    · show upd (t'.2.1 0) (L + j) _ i = t.2.1 0 i
      rw [upd_ne _ _ (by omega)]
      exact d i hi
    · show upd (t'.2.1 0) (L + j) _ (L + i) = _
      by_cases g : i = j
      · rw [g, upd_eq]
      · rw [upd_ne _ _ (by omega)]
        exact e i (by omega)
def BytM (m m' : OV) (L : Nat) (x : Int32) : Prop := m'.1 30 = nI (L + 4) ∧ Fr [30] [40] [] [] m m' ∧ (∀ i, i < L → m'.2.1 40 i = m.2.1 40 i) ∧ ∀ j, j < 4 → m'.2.1 40 (L + j) = vp_nar .byte ((x >>> (nI (24 - 8 * j) &&& 31)).toInt8.toInt32)
theorem mp_put {m : OV} {L : Nat} {x : Int32} (hL : L + 4 ≤ 400) (m1 : m.1 30 = nI L) {post : OV → Prop} (hp : ∀ m', BytM m m' L x → post m') : PX9_put m x post := by
  unfold PX9_put
  refine fr_rel (fun n j m' => PX9_put_L3 post n x (if j = 4 then (-8 : Int32) else nI (24 - 8 * j)) m') (fun j m' => m'.1 30 = nI (L + j) ∧ Fr [30] [40] [] [] m m' ∧ (∀ i, i < L → m'.2.1 40 i = m.2.1 40 i) ∧ ∀ i, i < j → m'.2.1 40 (L + i) = vp_nar .byte ((x >>> (nI (24 - 8 * i) &&& 31)).toInt8.toInt32)) 4 m ⟨m1, Fr_refl, fun _ _ => rfl, fun i hi => absurd hi (Nat.not_lt_zero i)⟩ ?_ ?_
  · rintro n m' ⟨a, b, d, e⟩
    show PX9_put_L3 post (n + 1) x (-8 : Int32) m'
    unfold PX9_put_L3
    exact br_t (by decide) (hp m' ⟨a, b, d, e⟩)
  · rintro n j m' hj ⟨a, b, d, e⟩ next
    show PX9_put_L3 post (n + 1) x (if j = 4 then (-8 : Int32) else nI (24 - 8 * j)) m'
    rw [if_neg (show ¬ j = 4 by omega)]
    unfold PX9_put_L3
    rw [a, nI_31 (show L + j < 1000 by omega)]
    refine br_f (nI_pos (by omega)) ?_
    rintro _ rfl
    refine ⟨vp_in_q (by omega) (by omega), ?_⟩
    rintro _ rfl
    rw [show (sa m' 40 (upd (m'.2.1 40) (L + j) (vp_nar .byte ((x >>> (nI (24 - 8 * j) &&& 31)).toInt8.toInt32)))).1 30 = nI (L + j) from a, nI_1]
    rintro _ rfl _ rfl _ rfl
    rw [n24 j hj]
    have nx := next (si (sa m' 40 (upd (m'.2.1 40) (L + j) (vp_nar .byte ((x >>> (nI (24 - 8 * j) &&& 31)).toInt8.toInt32)))) 30 (nI (L + j + 1))) ⟨rfl, Fr_si (by decide) (Fr_sa (by decide) (by decide) b), fun i hi => ?_, fun i hi => ?_⟩
    · have ej : (if j + 1 = 4 then (-8 : Int32) else nI (24 - 8 * (j + 1))) = (if j = 3 then (-8 : Int32) else nI (24 - 8 * (j + 1))) := by
        by_cases g : j = 3
        · rw [if_pos g, if_pos (by omega)]
        · rw [if_neg g, if_neg (by omega)]
      rw [ej] at nx
      exact nx
    · show upd (m'.2.1 40) (L + j) _ i = m.2.1 40 i
      rw [upd_ne _ _ (by omega)]
      exact d i hi
    · show upd (m'.2.1 40) (L + j) _ (L + i) = _
      by_cases g : i = j
      · rw [g, upd_eq]
      · rw [upd_ne _ _ (by omega)]
        exact e i (by omega)
def TapL (t m : OV) (L : Nat) : Prop := t.1 1 = nI L ∧ m.1 30 = nI L ∧ ∀ i, i < L → ∃ b, b < 256 ∧ t.2.1 0 i = nI b ∧ m.2.1 40 i = sgn8 b
theorem TapL_step {t t' m m' : OV} {L : Nat} {x : Int32} (r : TapL t m L) (a : Byt t t' L x) (b : BytM m m' L x) : TapL t' m' (L + 4) := by
  refine ⟨a.1, b.1, fun i hi => ?_⟩
  rcases Nat.lt_or_ge i L with c | c
  · rw [a.2.2.2.1 i c, b.2.2.1 i c]
    exact r.2.2 i c
  · obtain ⟨j, rfl⟩ : ∃ j, i = L + j := ⟨i - L, by omega⟩
    obtain ⟨v, h1, h2, h3⟩ := byte_at x (24 - 8 * j) (by omega)
    exact ⟨v, h1, (a.2.2.2.2 j (by omega)).trans h2, (b.2.2.2 j (by omega)).trans h3⟩
/-- the tape may change: nothing else of the relation speaks of it -/
theorem Sim_tape {n : Nat} {t t' c h s m m' : OV} {pp pr : Nat → OV} {im : Nat → Option IMG} (sim : Sim t c h s pp pr n im m) (f : Fr [30] [40] [] [] m m') (t5 : t'.1 5 = t.1 5) (tap : Tap t' m') : Sim t' c h s pp pr n im m' := by
  obtain ⟨w, _, rl, mi, ims⟩ := sim
  obtain ⟨S, T, Q, K, d, w⟩ := w
  have ag : AG m m' := AG_fr f (by decide) (by decide) rfl
  refine ⟨⟨S, T, Q, K, d, Scn_ag ag w⟩, tap, ?_, ⟨(f.1 39 (by decide)).trans mi.1, (f.1 50 (by decide)).trans mi.2⟩, ?_⟩
  · obtain ⟨a, b, c, e⟩ := rl
    exact ⟨t5.trans a, b, (f.1 34 (by decide)).trans c, fun r hr => ⟨(e r hr).1, RuleRel_fr f (by decide) (e r hr).2⟩⟩
  · intro k hk
    rcases ims k hk with ⟨a, b⟩ | ⟨x, a, b, S, T, Q, K, d, w⟩
    · exact Or.inl ⟨a, by rw [f.2.1 64 (by decide) (by decide)]; exact b⟩
    · exact Or.inr ⟨x, a, by rw [f.2.1 64 (by decide) (by decide)]; exact b, S, T, Q, K, d, Scn_ag (vwM_ag2 (fun j _ => by rw [f.2.1 63 (by decide) (by decide)])) w⟩
theorem sim_feed {n : Nat} {t c h s m : OV} {pp pr : Nat → OV} {im : Nat → Option IMG} {x1 x2 x3 x4 x5 : Int32} (sim : Sim t c h s pp pr n im m) : PX8_feed t x1 x2 x3 x4 x5 (fun r t' => PX9_feed m x1 x2 x3 x4 x5 (fun r' m' => r = r' ∧ Sim t' c h s pp pr n im m')) := by
  have sim0 := sim
  obtain ⟨w, ⟨L, hL, t1, m1, by0⟩, rl, mi, ims⟩ := sim
  unfold PX8_feed
  rw [t1]
  refine br_c (fun g => ?_) (fun g => ?_)
  · have hL2 : L + 20 ≤ 400 := by
      have := (nI_leI (b := 380) (by omega) (by omega)).mp g
      omega
    refine cp_append (by omega) t1 (fun ta ba => ?_)
    refine cp_append (by omega) ba.1 (fun tb bb => ?_)
    refine cp_append (by omega) bb.1 (fun tc bc => ?_)
    refine cp_append (by omega) bc.1 (fun td bd => ?_)
    refine cp_append (by omega) bd.1 (fun te be => ?_)
    unfold PX9_feed
    rw [m1, show nI L + (20 : Int32) = nI (L + 20) from nI_add L 20]
    refine br_t (fr_le (b := 400) hL2 (by omega)) ?_
    have r0 : TapL t m L := ⟨t1, m1, by0⟩
    refine mp_put (by omega) m1 (fun ma ca => ?_)
    have ra := TapL_step r0 ba ca
    refine mp_put (by omega) ca.1 (fun mb cb => ?_)
    have rb := TapL_step ra bb cb
    refine mp_put (by omega) cb.1 (fun mc cc => ?_)
    have rc := TapL_step rb bc cc
    refine mp_put (by omega) cc.1 (fun md cd => ?_)
    have rd := TapL_step rc bd cd
    refine mp_put (by omega) cd.1 (fun me ce => ?_)
    have re := TapL_step rd be ce
    have f := Fr_trans ca.2.1 (Fr_trans cb.2.1 (Fr_trans cc.2.1 (Fr_trans cd.2.1 ce.2.1)))
    refine ⟨be.1.trans ce.1.symm, Sim_tape sim0 f ?_ ⟨L + 4 + 4 + 4 + 4 + 4, by omega, re.1, re.2.1, re.2.2⟩⟩
    rw [be.2.1 5 (by decide), bd.2.1 5 (by decide), bc.2.1 5 (by decide), bb.2.1 5 (by decide), ba.2.1 5 (by decide)]
  · unfold PX9_feed
    rw [m1, show nI L + (20 : Int32) = nI (L + 20) from nI_add L 20]
    refine br_f (fun y => g ?_) ⟨rfl, sim0⟩
    have := (nI_leI (b := 400) (by omega) (by omega)).mp y
    exact fr_le (b := 380) (by omega) (by omega)
theorem sim_end {n : Nat} {t c h s m : OV} {pp pr : Nat → OV} {im : Nat → Option IMG} {x : Int32} (sim : Sim t c h s pp pr n im m) : PX8_end t x (fun r t' => PX9_end m x (fun r' m' => r = r' ∧ Sim t' c h s pp pr n im m')) := by
  have sim0 := sim
  obtain ⟨w, ⟨L, hL, t1, m1, by0⟩, rl, mi, ims⟩ := sim
  unfold PX8_end
  rw [t1]
  refine br_c (fun g => ?_) (fun g => br_c (fun g2 => ?_) (fun g2 => ?_))
  · unfold PX9_end
    exact br_t g ⟨rfl, sim0⟩
  · rintro _ rfl
    unfold PX9_end
    rw [m1]
    refine br_f g (br_t g2 ?_)
    rintro _ rfl
    obtain ⟨k, hk, rfl⟩ := nI_of g
    have hk2 : k ≤ L := (nI_leI (by omega) (by omega)).mp g2
    exact ⟨rfl, Sim_tape sim0 (Fr_si (by decide) Fr_refl) rfl ⟨k, by omega, rfl, rfl, fun i hi => by0 i (by omega)⟩⟩
  · unfold PX9_end
    rw [m1]
    exact br_f g (br_f g2 ⟨rfl, sim0⟩)
