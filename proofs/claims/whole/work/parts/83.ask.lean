/-! 83: ask -/
noncomputable def cntP (P : Nat → Prop) (m : Nat) : Nat := itn (fun o x => if zb (P o) = 1 then x + 1 else x) m 0
theorem cntP_s (P : Nat → Prop) (m : Nat) : (P m → cntP P (m + 1) = cntP P m + 1) ∧ (¬ P m → cntP P (m + 1) = cntP P m) := by
  have e : cntP P (m + 1) = if zb (P m) = 1 then cntP P m + 1 else cntP P m := rfl
  rw [e]
  refine ⟨fun h => ?_, fun h => ?_⟩
  · rw [zb_t h]; exact if_pos rfl
  · rw [zb_f h]; exact if_neg (by decide)
theorem cntP_le (P : Nat → Prop) : ∀ m, cntP P m ≤ m
  | 0 => Nat.le_refl 0
  | m + 1 => by
    have ih := cntP_le P m
    rcases Classical.em (P m) with h | h
    · rw [(cntP_s P m).1 h]; omega
    · rw [(cntP_s P m).2 h]; omega
theorem cntP_pos (P : Nat → Prop) : ∀ m, 0 < cntP P m ↔ ∃ o, o < m ∧ P o
  | 0 => ⟨fun h => absurd h (Nat.lt_irrefl 0), fun ⟨o, h, _⟩ => absurd h (Nat.not_lt_zero o)⟩
  | m + 1 => by
    have ih := cntP_pos P m
    rcases Classical.em (P m) with h | h
    · rw [(cntP_s P m).1 h]
      exact ⟨fun _ => ⟨m, by omega, h⟩, fun _ => by omega⟩
    · rw [(cntP_s P m).2 h, ih]
      exact ⟨fun ⟨o, a, b⟩ => ⟨o, by omega, b⟩, fun ⟨o, a, b⟩ => ⟨o, by
        by_cases e : o = m
        · rw [e] at b; exact absurd b h
        · omega, b⟩⟩
def mxF (f : Nat → Nat) (n : Nat) : Nat := itn (fun i x => if x < f i then f i else x) n 0
theorem mxF_ge (f : Nat → Nat) : ∀ n i, i < n → f i ≤ mxF f n
  | 0, i, h => absurd h (Nat.not_lt_zero i)
  | n + 1, i, h => by
    show f i ≤ (if mxF f n < f n then f n else mxF f n)
    by_cases e : i = n
    · subst e; split <;> omega
    · have := mxF_ge f n i (by omega)
      split <;> omega
theorem mxF_at (f : Nat → Nat) : ∀ n, mxF f n = 0 ∨ ∃ i, i < n ∧ mxF f n = f i
  | 0 => Or.inl rfl
  | n + 1 => by
    have ih := mxF_at f n
    show (if mxF f n < f n then f n else mxF f n) = 0 ∨ ∃ i, i < n + 1 ∧ (if mxF f n < f n then f n else mxF f n) = f i
    split
    · exact Or.inr ⟨n, by omega, rfl⟩
    · rcases ih with h | ⟨i, a, b⟩
      · exact Or.inl h
      · exact Or.inr ⟨i, by omega, b⟩
/-- as named and written on the day v -/
def nwP (wr : Nat → Nat → Int32) (c : OV) (nn q : Nat) (v : Int32) (o : Nat) : Prop := asN wr c nn o ∧ wr o q = v
noncomputable def mxC (wr : Nat → Nat → Int32) (c : OV) (nn n q : Nat) : Nat := mxF (fun r => cntP (nwP wr c nn q (wr r q)) (n + 1)) (n + 1)
noncomputable def mxR (wr : Nat → Nat → Int32) (c : OV) (nn n q : Nat) : Nat := mxF (fun v => cntP (nwP wr c nn q (rv v)) (n + 1)) 62
theorem mx_eq {wr : Nat → Nat → Int32} {c : OV} {nn n q : Nat} (hv : ∀ r, r ≤ n → ∃ v, v < 62 ∧ wr r q = rv v) : mxC wr c nn n q = mxR wr c nn n q := by
  refine Nat.le_antisymm ?_ ?_
  · rcases mxF_at (fun r => cntP (nwP wr c nn q (wr r q)) (n + 1)) (n + 1) with h | ⟨r, hr, e⟩
    · unfold mxC
      rw [h]
      exact Nat.zero_le _
    · obtain ⟨v, hv', ev⟩ := hv r (by omega)
      unfold mxC
      rw [e, ev]
      exact mxF_ge (fun v => cntP (nwP wr c nn q (rv v)) (n + 1)) 62 v hv'
  · rcases mxF_at (fun v => cntP (nwP wr c nn q (rv v)) (n + 1)) 62 with h | ⟨v, hv', e⟩
    · unfold mxR
      rw [h]
      exact Nat.zero_le _
    · unfold mxR
      rw [e]
      show cntP (nwP wr c nn q (rv v)) (n + 1) ≤ _
      rcases Nat.eq_zero_or_pos (cntP (nwP wr c nn q (rv v)) (n + 1)) with z | z
      · rw [z]
        exact Nat.zero_le _
      · obtain ⟨o, ho, _, eo⟩ := (cntP_pos _ _).mp z
        rw [← eo]
        exact mxF_ge (fun r => cntP (nwP wr c nn q (wr r q)) (n + 1)) (n + 1) o ho
theorem mx_le {wr : Nat → Nat → Int32} {c : OV} {nn n q : Nat} : mxC wr c nn n q ≤ n + 1 := by
  rcases mxF_at (fun r => cntP (nwP wr c nn q (wr r q)) (n + 1)) (n + 1) with h | ⟨r, hr, e⟩
  · unfold mxC
    rw [h]
    exact Nat.zero_le _
  · unfold mxC
    rw [e]
    exact cntP_le _ _
theorem mx_pos {wr : Nat → Nat → Int32} {c : OV} {nn n q : Nat} : 0 < mxC wr c nn n q ↔ 0 < cntP (asN wr c nn) (n + 1) := by
  constructor
  · intro h
    rcases mxF_at (fun r => cntP (nwP wr c nn q (wr r q)) (n + 1)) (n + 1) with z | ⟨r, hr, e⟩
    · unfold mxC at h
      rw [z] at h
      exact absurd h (Nat.lt_irrefl 0)
    · unfold mxC at h
      rw [e] at h
      obtain ⟨o, ho, a, _⟩ := (cntP_pos _ _).mp h
      exact (cntP_pos _ _).mpr ⟨o, ho, a⟩
  · intro h
    obtain ⟨o, ho, a⟩ := (cntP_pos _ _).mp h
    have h1 : 0 < cntP (nwP wr c nn q (wr o q)) (n + 1) := (cntP_pos _ _).mpr ⟨o, ho, a, rfl⟩
    exact Nat.lt_of_lt_of_le h1 (mxF_ge (fun r => cntP (nwP wr c nn q (wr r q)) (n + 1)) (n + 1) o ho)
theorem cp_mostAlike {t c : OV} {wr : Nat → Nat → Int32} {n nn Q q : Nat} (hn : n ≤ 6) (e5 : t.1 5 = nI n) (n10 : nn ≤ 10) (n7 : c.1 7 = nI nn) (hQ : Q ≤ 4) (hq : q < Q) (ix : ∀ k, k < nn → isIx (c.2.1 9 k) Q) (hw : ∀ r, r ≤ n → ∀ q, q < 4 → t.2.1 (100 + r) q = wr r q) {post : Int32 → Prop} (hp : post (nI (mxC wr c nn n q))) : PX8_mostAlike t c (nI q) post := by
  unfold PX8_mostAlike
  refine fr_loop (fun k r x => PX8_mostAlike_L4 t c post k (nI q) (nI x) (nI r)) (fun r x => if x < cntP (nwP wr c nn q (wr r q)) (n + 1) then cntP (nwP wr c nn q (wr r q)) (n + 1) else x) (n + 1) 0 ?_ ?_
  · intro k
    unfold PX8_mostAlike_L4
    rw [e5]
    exact br_t (nI_lt (by omega) (by omega)) hp
  · intro k r hr hw2
    have bx : itn (fun r x => if x < cntP (nwP wr c nn q (wr r q)) (n + 1) then cntP (nwP wr c nn q (wr r q)) (n + 1) else x) r 0 ≤ n + 1 := by
      rcases mxF_at (fun r => cntP (nwP wr c nn q (wr r q)) (n + 1)) r with z | ⟨i, _, e⟩
      · exact Nat.le_trans (Nat.le_of_eq z) (Nat.zero_le _)
      · exact Nat.le_trans (Nat.le_of_eq e) (cntP_le _ _)
    generalize itn (fun r x => if x < cntP (nwP wr c nn q (wr r q)) (n + 1) then cntP (nwP wr c nn q (wr r q)) (n + 1) else x) r 0 = x at hw2 bx ⊢
    unfold PX8_mostAlike_L4
    rw [e5]
    refine br_f (nI_nlt (by omega) (by omega)) ?_
    refine fr_rel (fun k2 o y => PX8_mostAlike_L18 t c (PX8_mostAlike_L4 t c post k) post k2 (nI q) (nI x) (nI r) (nI y) (nI o)) (fun o y => y = cntP (nwP wr c nn q (wr r q)) o) (n + 1) 0 rfl ?_ ?_
    · rintro k2 y rfl
      unfold PX8_mostAlike_L18
      rw [e5]
      refine br_t (nI_lt (by omega) (by omega)) ?_
      have cl := cntP_le (nwP wr c nn q (wr r q)) (n + 1)
      have e : (if nI x < nI (cntP (nwP wr c nn q (wr r q)) (n + 1)) then nI (cntP (nwP wr c nn q (wr r q)) (n + 1)) else nI x) = nI (if x < cntP (nwP wr c nn q (wr r q)) (n + 1) then cntP (nwP wr c nn q (wr r q)) (n + 1) else x) := by
        by_cases g : x < cntP (nwP wr c nn q (wr r q)) (n + 1)
        · rw [if_pos g, if_pos (nI_lt g (by omega))]
        · rw [if_neg g, if_neg (nI_nlt (by omega) (by omega))]
      rw [e]
      rintro _ rfl _ rfl
      rw [nI_1]
      exact hw2
    · rintro k2 o y ho rfl next
      have cl := cntP_le (nwP wr c nn q (wr r q)) o
      unfold PX8_mostAlike_L18
      rw [e5]
      refine br_f (nI_nlt (by omega) (by omega)) (cp_isAsNamed (wr := wr) hn (by omega) n10 n7 hQ ix hw ?_)
      by_cases a : asN wr c nn o
      · rw [zb_t a, nI_31 (show o < 1000 by omega), nI_31 (show q < 1000 by omega), nI_31 (show r < 1000 by omega), hw o (by omega) q (by omega), hw r (by omega) q (by omega)]
        refine br_f (by decide) ⟨vp_in_q (by omega) (by omega), by omega, vp_in_q (by omega) (by omega), vp_in_q (by omega) (by omega), by omega, vp_in_q (by omega) (by omega), br_nc (fun g => ?_) (fun g => ?_)⟩
        · rintro _ rfl
          rw [nI_1]
          exact next _ ((cntP_s _ o).2 (fun y => g y.2)).symm
        · rw [nI_1]
          rintro _ rfl _ rfl
          rw [nI_1]
          exact next _ ((cntP_s _ o).1 ⟨a, g⟩).symm
      · rw [zb_f a]
        refine br_t rfl ?_
        rintro _ rfl
        rw [nI_1]
        exact next _ ((cntP_s _ o).2 (fun y => a y.1)).symm
/-- the seeker to ask, and how many it leaves -/
noncomputable def ak1 (mx : Nat → Nat) (q : Nat) (p : Int32 × Int32) : Int32 × Int32 := if mx q = 0 then p else if p.1 = -2 then (nI q, nI (mx q)) else if p.2 ≤ nI (mx q) then p else (nI q, nI (mx q))
theorem ak_0 {mx : Nat → Nat} (h : ∀ q, mx q = 0) : ∀ n, itn (ak1 mx) n (-2, -2) = (-2, -2)
  | 0 => rfl
  | n + 1 => by
    show ak1 mx n (itn (ak1 mx) n (-2, -2)) = _
    rw [ak_0 h n]
    unfold ak1
    exact if_pos (h n)
theorem sim_ask {n : Nat} {t c h s w z m : OV} {pp pr : Nat → OV} {im : Nat → Option IMG} {x : Int32} (sim : Sim t c h s pp pr n im m) : PX8_ask t c h w z pr n x (fun r t' w' z' pr' => PX9_ask m x (fun r' m' => r = r' ∧ Sim t' c h s pp pr' n im m')) := by
  have sim0 := sim
  obtain ⟨⟨S, T, Q, K, d, w0⟩, tap, rl, mi, ims⟩ := sim
  have w0' := w0
  obtain ⟨hok, hv, hr, so, hd, sr, td, ⟨nn, n7, n10, n9, nk⟩, fc, dw, ps⟩ := w0'
  have lim := hok.1
  have l1 := lim.1
  have l3 := lim.2.2.1
  have hn := rl.2.1
  unfold PX8_ask
  refine cp_isTold hv ?_
  by_cases A : h.1 0 = 1 ∧ isIx x 2
  · rw [zb_t A]
    have tn : ¬ h.1 0 = 0 := (told_iff hv).mpr A.1
    refine br_nf (by decide) (cp_fillWritten hok rl (fun t1 w1 z1 pr1 ζ hζ tw hw q1 => ?_))
    have e5 : t1.1 5 = nI n := by rw [tw.1]; exact rl.1
    have wv : ∀ r, r ≤ n → ∀ q, q < Q → ∃ v, v < 62 ∧ WR pr ζ h S T Q K r q = rv v := by
      intro r hr' q hq
      have so4 : Sok (ζ r) S Q 0 0 := Sok_eq l1 (hζ r hr') (Sok_beg hv)
      have so5 := Sok_days (ρ := roW pr r) (h := h) (T := T) (K := K) l1 l3 so4 61
      rcases (so5.2.2.2.2.1 q (by omega)).2 with g | ⟨k, hk, g⟩
      · exact ⟨0, by omega, g⟩
      · exact ⟨k + 1, by omega, g⟩
    refine fr_loop (fun k q (p : Int32 × Int32) => PX8_ask_L23 c h n _ k x p.1 p.2 (nI q) t1 w1 z1 pr1) (ak1 (fun q => mxC (WR pr ζ h S T Q K) c nn n q)) Q (-2, -2) ?_ ?_
    · intro k
      generalize hF : itn (ak1 (fun q => mxC (WR pr ζ h S T Q K) c nn n q)) Q (-2, -2) = F
      unfold PX8_ask_L23
      rw [hok.2.2.2.1]
      have fin : ∀ m2, AG m m2 → Hld m m2 → Sim t1 c h s pp pr1 n im m2 := fun m2 a b => Sim_tw tw (Sim_keep q1 a b sim0)
      have ref : ∀ post : Int32 → OV → Prop, (∀ m2, AG m m2 → Hld m m2 → ((¬ x = 0 → post F.2 m2) ∧ (x = 0 → post F.1 m2))) → PX9_ask m x post := by
        intro post hp
        unfold PX9_ask
        refine mp_isHill hv hr (br_f tn (mp_inC 2 (by omega) (by decide) ?_))
        rw [zb_t A.2]
        refine br_nf (by decide) ?_
        refine fr_rel (fun k i m1 => PX9_ask_L21 post k x (nI i) m1) (fun i m1 => Fr [] [62] [] [] m m1 ∧ ∀ j, j < i → m1.2.1 62 j = 0) 248 m ⟨Fr_refl, fun j hj => absurd hj (Nat.not_lt_zero j)⟩ ?_ ?_
        · rintro k m1 ⟨f1, z62⟩
          unfold PX9_ask_L21
          refine br_t (Int32.le_refl _) ?_
          have ag1 : AG m m1 := AG_fr f1 (by decide) (by decide) rfl
          refine mp_keepsAll (fun m2 f2 c2 o2 => ?_)
          have ag2 : AG m1 m2 := AG_fr f2 (by decide) (by decide) rfl
          have ag := AG_trans ag1 ag2
          have k2 : Kp m m2 := by
            refine ⟨Fr_trans (Fr_mono f1 (by decide) (by decide) (by decide) (by decide)) (Fr_mono f2 (by decide) (by decide) (by decide) (by decide)), fun p hp' j hj => ?_, fun j hj => ?_⟩
            · rw [c2 p hp' j hj]
              have all : ∀ y ∈ LCur, y.2.1 ≠ 62 := by decide
              by_cases e : p.2.1 = 1
              · rw [e]
                exact f1.2.2.1 _ (by simp)
              · rw [f1.2.1 p.2.1 (by simp [all p hp']) e]
            · rw [o2 j hj, f1.2.1 63 (by decide) (by decide)]
          have r2 : TrI m (rhoS c pr) h S T Q K s m2 := ⟨k2, HRel_ag lim ag hr, SRel_ag lim ag sr, RuR_kp k2 ag (RuR_of fc rl), ((f2.1 50 (by decide)).trans (f1.1 50 (by decide))).trans mi.2⟩
          have z2 : ∀ q, q < Q → ∀ v, v < 62 → m2.2.1 62 (62 * q + v) = nI (cntP (nwP (WR pr ζ h S T Q K) c nn q (rv v)) 0) := by
            intro q hq v hv'
            rw [f2.2.1 62 (by decide) (by decide)]
            exact z62 _ (by omega)
          refine fr_rel (fun k r (p : Int32 × OV) => PX9_ask_L51 post k x p.1 (rv r) p.2) (fun r p => p.1 = nI (cntP (asN (WR pr ζ h S T Q K) c nn) r) ∧ AG m p.2 ∧ TrI m (rhoS c pr) h S T Q K s p.2 ∧ ∀ q, q < Q → ∀ v, v < 62 → p.2.2.1 62 (62 * q + v) = nI (cntP (nwP (WR pr ζ h S T Q K) c nn q (rv v)) r)) (n + 1) (0, m2) ⟨rfl, ag, r2, z2⟩ ?_ ?_
          · rintro k ⟨y, m3⟩ ⟨ey, ag3, r3, z3⟩
            have ey' : y = nI (cntP (asN (WR pr ζ h S T Q K) c nn) (n + 1)) := ey
            subst ey'
            show PX9_ask_L51 post (k + 1) x (nI (cntP (asN (WR pr ζ h S T Q K) c nn) (n + 1))) (rv (n + 1)) m3
            unfold PX9_ask_L51
            rw [show m3.1 34 = nI n from (r3.1.1.1 34 (by decide)).trans rl.2.2.1]
            refine br_t (Int32.le_refl _) ?_
            have e5q : m3.2.1 1 ((5 : Int32)).toNatClampNeg = nI Q := r3.2.1.1.2.2.2.2.1
            have hp3 := hp m3 ag3 (Kp_hld r3.1 (r3.2.2.2.2.trans mi.2.symm))
            have cl := cntP_le (asN (WR pr ζ h S T Q K) c nn) (n + 1)
            refine fr_rel (fun k q (p : Int32 × Int32) => PX9_ask_L148 post k x (nI (cntP (asN (WR pr ζ h S T Q K) c nn) (n + 1))) p.1 p.2 (nI q) m3) (fun q p => p = itn (ak1 (fun q => mxC (WR pr ζ h S T Q K) c nn n q)) q (-2, -2)) Q (-2, -2) rfl ?_ ?_
            · rintro k p ep
              have ep' : p = F := ep.trans hF
              subst ep'
              unfold PX9_ask_L148 PX9_ask_b243
              rw [e5q]
              exact br_t (Int32.le_refl _) hp3
            · rintro k q p hq ep next
              unfold PX9_ask_L148 PX9_ask_b243
              rw [e5q]
              refine br_f (fr_nle hq (by omega)) ?_
              by_cases zc : cntP (asN (WR pr ζ h S T Q K) c nn) (n + 1) = 0
              · refine br_t (by rw [zc]; exact Int32.le_refl _) ?_
                have a0 : ∀ q, (fun q => mxC (WR pr ζ h S T Q K) c nn n q) q = 0 := fun q => by
                  rcases Nat.eq_zero_or_pos (mxC (WR pr ζ h S T Q K) c nn n q) with y | y
                  · exact y
                  · have := mx_pos.mp y
                    omega
                rw [ak_0 a0] at ep hF
                rw [ep, hF]
                exact hp3
              · refine br_f (nI_nle (by omega) (by omega)) ?_
                rw [show ((62 : Int32)) * nI q = nI (62 * q) from nI_mul 62 q]
                rintro _ rfl
                have mp : 0 < mxC (WR pr ζ h S T Q K) c nn n q := mx_pos.mpr (by omega)
                have ml := mx_le (wr := WR pr ζ h S T Q K) (c := c) (nn := nn) (n := n) (q := q)
                have me := mx_eq (wr := WR pr ζ h S T Q K) (c := c) (nn := nn) (n := n) (q := q) (fun r hr' => wv r hr' q hq)
                refine fr_loop (fun k2 v y => PX9_ask_L173 (PX9_ask_L148 post k) post k2 x (nI (cntP (asN (WR pr ζ h S T Q K) c nn) (n + 1))) p.1 p.2 (nI q) (nI y) (nI (62 * q + v)) m3) (fun v y => if y < cntP (nwP (WR pr ζ h S T Q K) c nn q (rv v)) (n + 1) then cntP (nwP (WR pr ζ h S T Q K) c nn q (rv v)) (n + 1) else y) 62 0 ?_ ?_
                · intro k2
                  rw [show itn (fun v y => if y < cntP (nwP (WR pr ζ h S T Q K) c nn q (rv v)) (n + 1) then cntP (nwP (WR pr ζ h S T Q K) c nn q (rv v)) (n + 1) else y) 62 0 = mxC (WR pr ζ h S T Q K) c nn n q from me.symm]
                  unfold PX9_ask_L173 PX9_ask_b230
                  rw [nI_1, show ((62 : Int32)) * nI (q + 1) = nI (62 * (q + 1)) from nI_mul 62 (q + 1)]
                  refine br_t (nI_le (by omega) (by omega)) ?_
                  have st : itn (ak1 (fun q => mxC (WR pr ζ h S T Q K) c nn n q)) (q + 1) (-2, -2) = ak1 (fun q => mxC (WR pr ζ h S T Q K) c nn n q) q p := by rw [ep]; rfl
                  unfold ak1 at st
                  rw [if_neg (show ¬ (fun q => mxC (WR pr ζ h S T Q K) c nn n q) q = 0 by show ¬ mxC (WR pr ζ h S T Q K) c nn n q = 0; omega)] at st
                  refine br_c (fun g => ?_) (fun g => ?_)
                  · rw [if_pos g] at st
                    rintro _ rfl
                    exact next (nI q, nI (mxC (WR pr ζ h S T Q K) c nn n q)) st.symm
                  · rw [if_neg g] at st
                    refine br_c (fun g2 => ?_) (fun g2 => ?_)
                    · rw [if_pos g2] at st
                      rintro _ rfl
                      exact next p st.symm
                    · rw [if_neg g2] at st
                      rintro _ rfl
                      exact next (nI q, nI (mxC (WR pr ζ h S T Q K) c nn n q)) st.symm
                · intro k2 v hv' hw2
                  have bx : itn (fun v y => if y < cntP (nwP (WR pr ζ h S T Q K) c nn q (rv v)) (n + 1) then cntP (nwP (WR pr ζ h S T Q K) c nn q (rv v)) (n + 1) else y) v 0 ≤ n + 1 := by
                    rcases mxF_at (fun v => cntP (nwP (WR pr ζ h S T Q K) c nn q (rv v)) (n + 1)) v with z | ⟨i, _, e⟩
                    · exact Nat.le_trans (Nat.le_of_eq z) (Nat.zero_le _)
                    · exact Nat.le_trans (Nat.le_of_eq e) (cntP_le _ _)
                  generalize itn (fun v y => if y < cntP (nwP (WR pr ζ h S T Q K) c nn q (rv v)) (n + 1) then cntP (nwP (WR pr ζ h S T Q K) c nn q (rv v)) (n + 1) else y) v 0 = y at hw2 bx ⊢
                  have cl2 := cntP_le (nwP (WR pr ζ h S T Q K) c nn q (rv v)) (n + 1)
                  unfold PX9_ask_L173
                  rw [nI_1, show ((62 : Int32)) * nI (q + 1) = nI (62 * (q + 1)) from nI_mul 62 (q + 1), nI_31 (show 62 * q + v < 1000 by omega), z3 q hq v hv']
                  refine br_f (nI_ge (by omega) (by omega)) ⟨vp_in_q (by omega) (by omega), br_c (fun g => ?_) (fun g => ⟨vp_in_q (by omega) (by omega), ?_⟩)⟩
                  · rw [if_neg (by have := (nI_leI (by omega) (by omega)).mp g; omega)] at hw2
                    rintro _ rfl
                    rw [nI_1]
                    exact hw2
                  · rw [if_pos (by
                      rcases Nat.lt_or_ge y (cntP (nwP (WR pr ζ h S T Q K) c nn q (rv v)) (n + 1)) with u | u
                      · exact u
                      · exact absurd (nI_le u (by omega)) g)] at hw2
                    rintro _ rfl _ rfl
                    rw [nI_1]
                    exact hw2
          · rintro k r ⟨y, m3⟩ hr' ⟨ey, ag3, r3, z3⟩ next
            have ey' : y = nI (cntP (asN (WR pr ζ h S T Q K) c nn) r) := ey
            subst ey'
            show PX9_ask_L51 post (k + 1) x (nI (cntP (asN (WR pr ζ h S T Q K) c nn) r)) (rv r) m3
            unfold PX9_ask_L51
            rw [show m3.1 34 = nI n from (r3.1.1.1 34 (by decide)).trans rl.2.2.1]
            refine br_f (rv_ge hn (by omega)) (mp_laysWriting w0 rl mi.2 A.1 (by omega) (hζ r (by omega)) r3 ag3 (fun m4 r4 ag4 w4 e62 => mp_areNamesSo (r := r) ag4 n10 n9 l3 nk w4 ?_))
            have z4 : ∀ q, q < Q → ∀ v, v < 62 → m4.2.1 62 (62 * q + v) = nI (cntP (nwP (WR pr ζ h S T Q K) c nn q (rv v)) r) := fun q hq v hv' => by rw [e62]; exact z3 q hq v hv'
            have cl := cntP_le (asN (WR pr ζ h S T Q K) c nn) r
            have nx := rv_s r
            have e5q : ∀ m5, Fr [] [62] [] [] m4 m5 → m5.2.1 1 ((5 : Int32)).toNatClampNeg = nI Q := fun m5 f5 => (f5.2.2.1 5 (by decide)).trans r4.2.1.1.2.2.2.2.1
            have keep : ∀ m5, Fr [] [62] [] [] m4 m5 → AG m m5 ∧ TrI m (rhoS c pr) h S T Q K s m5 := fun m5 f5 => ⟨AG_trans ag4 (AG_fr f5 (by decide) (by decide) rfl), Kp_fr r4.1 f5 (by decide) (by decide) (by decide) (by decide), HRel_fr f5 (by decide) (by decide) r4.2.1, SRel_fr f5 (by decide) (by decide) r4.2.2.1, RuR_fr f5 (by decide) (by decide) r4.2.2.2.1, (f5.1 50 (by decide)).trans r4.2.2.2.2⟩
            by_cases a : asN (WR pr ζ h S T Q K) c nn r
            · rw [zb_t a]
              refine br_f (by decide) ?_
              unfold PX9_ask_b81
              rw [nI_1]
              rintro _ rfl
              refine fr_rel (fun k2 q m5 => PX9_ask_L86 (PX9_ask_L51 post k) post k2 x (nI (cntP (asN (WR pr ζ h S T Q K) c nn) r + 1)) (rv r) 1 (nI q) m5) (fun q m5 => Fr [] [62] [] [] m4 m5 ∧ ∀ q', q' < Q → ∀ v, v < 62 → m5.2.1 62 (62 * q' + v) = nI (cntP (nwP (WR pr ζ h S T Q K) c nn q' (rv v)) (if q' < q then r + 1 else r))) Q m4 ⟨Fr_refl, fun q' hq' v hv' => by rw [if_neg (by omega)]; exact z4 q' hq' v hv'⟩ ?_ ?_
              · rintro k2 m5 ⟨f5, z5⟩
                unfold PX9_ask_L86
                rw [e5q m5 f5]
                refine br_t (Int32.le_refl _) ?_
                rintro _ rfl
                rw [nx]
                obtain ⟨ag5, r5⟩ := keep m5 f5
                refine next (nI (cntP (asN (WR pr ζ h S T Q K) c nn) r + 1), m5) ⟨by rw [(cntP_s _ r).1 a], ag5, r5, fun q' hq' v hv' => ?_⟩
                have := z5 q' hq' v hv'
                rw [if_pos hq'] at this
                exact this
              · rintro k2 q m5 hq ⟨f5, z5⟩ next2
                obtain ⟨v0, hv0, ev0⟩ := wv r (by omega) q hq
                have e61 : m5.2.1 61 q = rv v0 := by rw [f5.2.1 61 (by decide) (by decide), w4 q hq, ev0]
                unfold PX9_ask_L86
                rw [e5q m5 f5, nI_31 (show q < 1000 by omega), e61]
                have ei : ((62 : Int32)) * nI q + rv v0 + 1 = nI (62 * q + v0) := by
                  rw [show ((62 : Int32)) * nI q = nI (62 * q) from nI_mul 62 q, Int32.add_assoc, rv_s, ← nI_add]
                  rfl
                rw [ei, nI_31 (show 62 * q + v0 < 1000 by omega), z5 q hq v0 hv0, if_neg (Nat.lt_irrefl q), nI_1]
                refine br_f (fr_nle hq (by omega)) (br_f (by decide) ⟨vp_in_q (by omega) (by omega), vp_in_q (by omega) (by omega), ?_⟩)
                rintro _ rfl
                refine ⟨vp_in_q (by omega) (by omega), ?_⟩
                rintro _ rfl _ rfl
                rw [nI_1]
                refine next2 _ ⟨Fr_sa (by decide) (by decide) f5, fun q' hq' v hv' => ?_⟩
                show upd (m5.2.1 62) (62 * q + v0) (nI (cntP (nwP (WR pr ζ h S T Q K) c nn q (rv v0)) r + 1)) (62 * q' + v) = _
                by_cases e : q' = q
                · subst e
                  rw [if_pos (by omega)]
                  by_cases ev : v = v0
                  · subst ev
                    rw [upd_eq, (cntP_s _ r).1 ⟨a, ev0⟩]
                  · rw [upd_ne _ _ (by omega), z5 q' hq' v hv', if_neg (Nat.lt_irrefl q'), (cntP_s _ r).2 (fun y => ?_)]
                    have eq : rv v0 = rv v := ev0.symm.trans y.2
                    have h1 := congrArg (fun y => y + 1) eq
                    simp only [rv_s] at h1
                    exact ev (nI_inj (by omega) (by omega) h1).symm
                · rw [upd_ne _ _ (by omega), z5 q' hq' v hv']
                  by_cases l : q' < q
                  · rw [if_pos l, if_pos (by omega)]
                  · rw [if_neg l, if_neg (by omega)]
            · rw [zb_f a]
              refine br_t rfl ?_
              unfold PX9_ask_b81
              rw [Int32.add_zero]
              rintro _ rfl
              refine ⟨1, ?_⟩
              have gone : ∀ X, X = (∀ x4 : Int32, x4 = rv r + (1 : Int32) → PX9_ask_L51 post k x (nI (cntP (asN (WR pr ζ h S T Q K) c nn) r)) x4 m4) → X := by
                rintro X rfl
                rintro _ rfl
                rw [nx]
                obtain ⟨ag5, r5⟩ := keep m4 Fr_refl
                refine next (nI (cntP (asN (WR pr ζ h S T Q K) c nn) r), m4) ⟨by rw [(cntP_s _ r).2 a], ag5, r5, fun q' hq' v hv' => ?_⟩
                rw [(cntP_s _ r).2 (fun y => a y.1)]
                exact z4 q' hq' v hv'
              unfold PX9_ask_L86
              rw [e5q m4 Fr_refl]
              exact br_c (fun _ => gone _ rfl) (fun _ => br_t rfl (gone _ rfl))
        · rintro k i m1 hi ⟨f1, z62⟩ next
          unfold PX9_ask_L21
          rw [nI_31 (show i < 1000 by omega)]
          refine br_f (fr_nle (b := 248) hi (by omega)) ⟨vp_in_q hi (by omega), ?_⟩
          rintro _ rfl _ rfl
          rw [nI_1]
          refine next _ ⟨Fr_sa (by decide) (by decide) f1, fun j hj => ?_⟩
          show upd (m1.2.1 62) i 0 j = 0
          by_cases e : j = i
          · rw [e, upd_eq]
          · rw [upd_ne _ _ e]
            exact z62 j (by omega)
      exact br_t (Int32.le_refl _) (br_nc (fun e => ref _ (fun m2 ag hl => br_nf e ⟨rfl, fin m2 ag hl⟩)) (fun e => ref _ (fun m2 ag hl => br_nt e ⟨rfl, fin m2 ag hl⟩)))
    · intro k q hq hw2
      generalize itn (ak1 (fun q => mxC (WR pr ζ h S T Q K) c nn n q)) q (-2, -2) = p at hw2 ⊢
      unfold ak1 at hw2
      rw [← nI_1] at hw2
      have ml := mx_le (wr := WR pr ζ h S T Q K) (c := c) (nn := nn) (n := n) (q := q)
      unfold PX8_ask_L23 PX8_ask_b63
      rw [hok.2.2.2.1]
      refine br_f (fr_nle hq (by omega)) (cp_mostAlike (wr := WR pr ζ h S T Q K) hn e5 n10 n7 l3 hq (fun k hk => (nk k hk).2.2.2) hw ?_)
      by_cases z : mxC (WR pr ζ h S T Q K) c nn n q = 0
      · rw [if_pos z] at hw2
        refine br_t (by rw [z]; exact Int32.le_refl _) ?_
        rintro _ rfl
        exact hw2
      · rw [if_neg z] at hw2
        refine br_f (nI_nle (by omega) (by omega)) ?_
        refine br_c (fun g => ?_) (fun g => ?_)
        · rw [if_pos g] at hw2
          rintro _ rfl
          exact hw2
        · rw [if_neg g] at hw2
          refine br_c (fun g2 => ?_) (fun g2 => ?_)
          · rw [if_pos g2] at hw2
            rintro _ rfl
            exact hw2
          · rw [if_neg g2] at hw2
            rintro _ rfl
            exact hw2
  · rw [zb_f A]
    refine br_nt rfl ?_
    unfold PX9_ask
    refine mp_isHill hv hr (br_c (fun _ => ⟨rfl, sim0⟩) (fun e => mp_inC 2 (by omega) (by decide) ?_))
    rw [zb_f (fun q => A ⟨(told_iff hv).mp e, q⟩)]
    exact br_nt rfl ⟨rfl, sim0⟩
