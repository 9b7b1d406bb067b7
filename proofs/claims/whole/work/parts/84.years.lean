/-! 84: draws, years -/
theorem dr_and (y : Nat) : lN y &&& (2147483647 : Int64) = lN ((y % 2 ^ 64) % 2147483648) := by
  refine Int64.toBitVec_inj.mp (BitVec.eq_of_toNat_eq ?_)
  rw [Int64.toBitVec_and, BitVec.toNat_and]
  show (y % 2 ^ 64) &&& (2147483647 % 2 ^ 64) = ((y % 2 ^ 64) % 2147483648) % 2 ^ 64
  have e1 : (2147483647 : Nat) % 2 ^ 64 = 2 ^ 31 - 1 := by decide
  rw [e1, Nat.and_two_pow_sub_one_eq_mod]
  have : (y % 2 ^ 64) % 2 ^ 31 < 2 ^ 31 := Nat.mod_lt _ (by decide)
  rw [Nat.mod_eq_of_lt (a := y % 2 ^ 64 % 2147483648) (by omega)]
theorem lN_toInt63 {n : Nat} (h : n < 2 ^ 63) : (lN n).toInt = (n : Int) := lg_ofNat_toInt (by omega)
theorem dr_div {y : Nat} (h : y < 2 ^ 63) : lN y / (2147483648 : Int64) = lN (y / 2147483648) := by
  refine Int64.toInt_inj.mp ?_
  have hb : ((2147483648 : Int64)).toInt = 2147483648 := by decide
  have hlt : y / 2147483648 < 2 ^ 63 := Nat.lt_of_le_of_lt (Nat.div_le_self _ _) h
  rw [Int64.toInt_div_of_ne_right _ _ (by decide), hb, lN_toInt63 h, lN_toInt63 hlt]
  exact Int.ofNat_tdiv y 2147483648 ▸ rfl
/-- the next number drawn -/
def drS (x : Int32) : Int32 := (((x.toInt64 * (1103515245 : Int64)) + (12345 : Int64)) &&& (2147483647 : Int64)).toInt32
theorem dr_eq {x : Int32} (h : ¬ x < 0) : ((((x.toInt64) * ((1103515245 : Int64))) + ((12345 : Int64))) - (((x.toInt64) * ((1103515245 : Int64))) + ((12345 : Int64))) / ((2147483648 : Int64)) * ((2147483648 : Int64))).toInt32 = drS x ∧ ¬ drS x < 0 := by
  obtain ⟨a, ha, rfl⟩ := nI_of h
  unfold drS
  rw [nI_l ha, show (1103515245 : Int64) = lN 1103515245 from rfl, lN_mul, show (12345 : Int64) = lN 12345 from rfl, lN_add]
  have hy : a * 1103515245 + 12345 < 2 ^ 62 := by omega
  generalize a * 1103515245 + 12345 = y at hy
  rw [dr_div (by omega), dr_and, Nat.mod_eq_of_lt (show y < 2 ^ 64 by omega), show (2147483648 : Int64) = lN 2147483648 from rfl, lN_mul, lN_sub (Nat.div_mul_le_self y 2147483648), lN_i, lN_i]
  have e : y - y / 2147483648 * 2147483648 = y % 2147483648 := by omega
  rw [e]
  exact ⟨rfl, nI_pos (by omega)⟩
def mdS (x : Int32) : Int32 := (x / 65536) - (x / 65536) / 100 * 100
/-- one day with draws: the number, the state, the finds -/
noncomputable def yd1 (ρ : Option OV) (h : OV) (S T Q K : Nat) (p : Int32) (y : Int32 × OV × Int32) : Int32 × OV × Int32 := (drS y.1, passS ρ h S T Q K (¬ p ≤ mdS (drS y.1)) y.2.1, y.2.2 + pasN ρ h S T Q y.2.1)
noncomputable def ydN (ρ : Option OV) (h : OV) (S T Q K : Nat) (p : Int32) (n : Nat) (y : Int32 × OV × Int32) : Int32 × OV × Int32 := itn (fun _ y => yd1 ρ h S T Q K p y) n y
/-- one time: the number, how often it was gone, the finds -/
noncomputable def ym1 (ρ : Option OV) (h : OV) (S T Q K : Nat) (p : Int32) (n : Nat) (ζ : Nat → OV) (i : Nat) (v : Int32 × Int32 × Int32) : Int32 × Int32 × Int32 := ((ydN ρ h S T Q K p n (v.1, ζ i, v.2.2)).1, v.2.1 + (if (ydN ρ h S T Q K p n (v.1, ζ i, v.2.2)).2.1.1 2 = -1 then 1 else 0), (ydN ρ h S T Q K p n (v.1, ζ i, v.2.2)).2.2)
theorem Sok_yd {ρ : Option OV} {h : OV} {S T Q K d : Nat} {p : Int32} (hS : S ≤ 10) (hQ : Q ≤ 4) {y : Int32 × OV × Int32} (o : Sok y.2.1 S Q d d) : ∀ n, Sok (ydN ρ h S T Q K p n y).2.1 S Q (d + n) (d + n)
  | 0 => o
  | n + 1 => Sok_pass hS hQ (Sok_yd hS hQ o n)
theorem yd_x {ρ : Option OV} {h : OV} {S T Q K : Nat} {p : Int32} {y : Int32 × OV × Int32} (hx : ¬ y.1 < 0) : ∀ n, ¬ (ydN ρ h S T Q K p n y).1 < 0
  | 0 => hx
  | n + 1 => (dr_eq (yd_x hx n)).2
theorem sim_years {n : Nat} {t c h s w z m : OV} {pp pr : Nat → OV} {im : Nat → Option IMG} {a1 a2 a3 a4 : Int32} (sim : Sim t c h s pp pr n im m) : PX8_years t c h s w z pr n a1 a2 a3 a4 (fun r w' z' pr' => PX9_years m a1 a2 a3 a4 (fun r' m' => r = r' ∧ Sim t c h s pp pr' n im m')) := by
  have sim0 := sim
  obtain ⟨⟨S, T, Q, K, d, w0⟩, tap, rl, mi, ims⟩ := sim
  have w0' := w0
  obtain ⟨hok, hv, hr, so, hd, sr, td, nm, fc, dw, ps⟩ := w0'
  have lim := hok.1
  have l1 := lim.1
  have l3 := lim.2.2.1
  have noR : (¬ (h.1 0 = 1 ∧ isIx a4 2) ∨ ¬ (1 ≤ a1 ∧ a1 ≤ 10) ∨ ¬ (1 ≤ a2 ∧ a2 ≤ 60) ∨ ¬ isIx a3 101) → PX9_years m a1 a2 a3 a4 (fun r' m' => (-1 : Int32) = r' ∧ Sim t c h s pp pr n im m') := by
    intro g
    unfold PX9_years
    refine mp_isHill hv hr (br_c (fun _ => ⟨rfl, sim0⟩) (fun q => sp_in32 (lo := 1) (hi := 10) (by decide) (by decide) ?_))
    by_cases b1 : 1 ≤ a1 ∧ a1 ≤ 10
    · rw [zb_t b1]
      refine br_f (by decide) (sp_in32 (lo := 1) (hi := 60) (by decide) (by decide) ?_)
      by_cases b2 : 1 ≤ a2 ∧ a2 ≤ 60
      · rw [zb_t b2]
        refine br_f (by decide) (mp_inC 101 (by omega) (by decide) ?_)
        by_cases b3 : isIx a3 101
        · rw [zb_t b3]
          refine br_f (by decide) (mp_inC 2 (by omega) (by decide) ?_)
          rw [zb_f (fun b => by
            rcases g with g | g | g | g
            · exact g ⟨(told_iff hv).mp q, b⟩
            · exact g b1
            · exact g b2
            · exact g b3)]
          exact br_nt rfl ⟨rfl, sim0⟩
        · rw [zb_f b3]
          exact br_t rfl ⟨rfl, sim0⟩
      · rw [zb_f b2]
        exact br_t rfl ⟨rfl, sim0⟩
    · rw [zb_f b1]
      exact br_t rfl ⟨rfl, sim0⟩
  unfold PX8_years
  refine cp_isTold hv ?_
  by_cases A : h.1 0 = 1 ∧ isIx a4 2
  · rw [zb_t A]
    have tn : ¬ h.1 0 = 0 := (told_iff hv).mpr A.1
    refine br_f (by decide) ?_
    refine br_c (fun g => noR (Or.inr (Or.inl (fun q => absurd g (Int32.not_lt.mpr q.1))))) (fun g1 => br_c (fun g => noR (Or.inr (Or.inl (fun q => absurd g (Int32.not_lt.mpr q.2))))) (fun g2 => ?_))
    refine br_c (fun g => noR (Or.inr (Or.inr (Or.inl (fun q => absurd g (Int32.not_lt.mpr q.1)))))) (fun g3 => br_c (fun g => noR (Or.inr (Or.inr (Or.inl (fun q => absurd g (Int32.not_lt.mpr q.2)))))) (fun g4 => ?_))
    refine br_c (fun g => noR (Or.inr (Or.inr (Or.inr (fun q => absurd g (Int32.not_lt.mpr ((isIx_iff (n := 101) (by omega)).mp q).1)))))) (fun g5 => br_c (fun g6 => ?_) (fun g6 => noR (Or.inr (Or.inr (Or.inr (fun q => ?_))))))
    · have b1 : 1 ≤ a1 ∧ a1 ≤ 10 := ⟨Int32.not_lt.mp g1, Int32.not_lt.mp g2⟩
      have b2 : 1 ≤ a2 ∧ a2 ≤ 60 := ⟨Int32.not_lt.mp g3, Int32.not_lt.mp g4⟩
      obtain ⟨M, hM, rfl⟩ := ix_le (n := 10) (by omega) (fun y => g1 (Int32.lt_trans y (by decide))) b1.2
      obtain ⟨N, hN, rfl⟩ := ix_le (n := 60) (by omega) (fun y => g3 (Int32.lt_trans y (by decide))) b2.2
      have b3 : isIx a3 101 := by
        obtain ⟨k, hk, e⟩ := ix_le (n := 100) (by omega) g5 g6
        exact ⟨k, by omega, e⟩
      rintro _ rfl
      refine fr_rel (fun k i (p : (Int32 × Int32 × Int32) × OV × OV × (Nat → OV)) => PX8_years_L61 t c h s n _ k (nI M) (nI N) a3 a4 p.1.1 p.1.2.1 p.1.2.2 (nI i) p.2.1 p.2.2.1 p.2.2.2) (fun i p => PrEq pr p.2.2.2 ∧ ∃ ζ : Nat → OV, (∀ j, j < i → SEq s (ζ j)) ∧ p.1 = itn (ym1 (rhoS c pr) h S T Q K a3 N ζ) i (c.1 2, 0, 0)) M ((c.1 2, 0, 0), w, z, pr) ⟨PrEq_refl pr, fun _ => s, fun j hj => absurd hj (Nat.not_lt_zero j), rfl⟩ ?_ ?_
      · rintro k ⟨p, w2, z2, pr2⟩ ⟨q2, ζ, hζ, ep⟩
        have ep' : p = itn (ym1 (rhoS c pr) h S T Q K a3 N ζ) M (c.1 2, 0, 0) := ep
        show PX8_years_L61 t c h s n _ (k + 1) (nI M) (nI N) a3 a4 p.1 p.2.1 p.2.2 (nI M) w2 z2 pr2
        unfold PX8_years_L61
        refine br_t (Int32.le_refl _) ?_
        have ref : ∀ post : Int32 → OV → Prop, (∀ m2, AG m m2 → Hld m m2 → ((¬ a4 = 0 → post p.2.2 m2) ∧ (a4 = 0 → post p.2.1 m2))) → PX9_years m (nI M) (nI N) a3 a4 post := by
          intro post hp
          unfold PX9_years
          refine mp_isHill hv hr (br_f tn (sp_in32 (lo := 1) (hi := 10) (by decide) (by decide) ?_))
          rw [zb_t b1]
          refine br_f (by decide) (sp_in32 (lo := 1) (hi := 60) (by decide) (by decide) ?_)
          rw [zb_t b2]
          refine br_f (by decide) (mp_inC 101 (by omega) (by decide) ?_)
          rw [zb_t b3]
          refine br_f (by decide) (mp_inC 2 (by omega) (by decide) ?_)
          rw [zb_t A.2, show m.2.1 1 ((10 : Int32)).toNatClampNeg = c.1 2 from dw.1]
          refine br_nf (by decide) ?_
          rintro _ rfl
          refine mp_keep (fun m1 k1 ag1 e50 => ?_)
          have r1 : TrI m (rhoS c pr) h S T Q K s m1 := ⟨k1, HRel_ag lim ag1 hr, SRel_ag lim ag1 sr, RuR_kp k1 ag1 (RuR_of fc rl), e50.trans mi.2⟩
          refine fr_rel (fun k i (p : (Int32 × Int32 × Int32) × OV) => PX9_years_L82 post k (nI M) (nI N) a3 a4 (c.1 2) p.1.1 p.1.2.1 p.1.2.2 (nI i) p.2) (fun i p => p.1 = itn (ym1 (rhoS c pr) h S T Q K a3 N ζ) i (c.1 2, 0, 0) ∧ ¬ p.1.1 < 0 ∧ AG m p.2 ∧ TrI m (rhoS c pr) h S T Q K s p.2) M ((c.1 2, 0, 0), m1) ⟨rfl, dw.2, ag1, r1⟩ ?_ ?_
          · rintro k ⟨p', m2⟩ ⟨ep2, _, ag2, r2⟩
            have ep3 : p' = p := Eq.trans ep2 ep'.symm
            subst ep3
            show PX9_years_L82 post (k + 1) (nI M) (nI N) a3 a4 (c.1 2) p'.1 p'.2.1 p'.2.2 (nI M) m2
            unfold PX9_years_L82
            refine br_t (Int32.le_refl _) ?_
            rintro _ rfl
            have f : Fr [] [] [10] [] m2 (sa m2 1 (upd (m2.2.1 1) 10 (c.1 2))) := Fr_sc (by decide) Fr_refl
            have k3 := Kp_fr r2.1 f (by decide) (by decide) (by decide) (by decide)
            have e10 : m2.2.1 1 10 = c.1 2 := (ag2.1 (1, 12) (by decide) 10 (by decide)).trans dw.1
            have es : sa m2 1 (upd (m2.2.1 1) 10 (c.1 2)) = m2 := by rw [← e10, upd_same, sa_self]
            have hh := hp m2 ag2 (Kp_hld r2.1 (r2.2.2.2.2.trans mi.2.symm))
            show (¬ a4 = 0 → post p'.2.2 (sa m2 1 (upd (m2.2.1 1) 10 (c.1 2)))) ∧ (a4 = 0 → post p'.2.1 (sa m2 1 (upd (m2.2.1 1) 10 (c.1 2))))
            rw [es]
            exact hh
          · rintro k i ⟨p', m2⟩ hi ⟨ep2, hx, ag2, r2⟩ next
            have ep2' : p' = itn (ym1 (rhoS c pr) h S T Q K a3 N ζ) i (c.1 2, 0, 0) := ep2
            have hx' : ¬ p'.1 < 0 := hx
            show PX9_years_L82 post (k + 1) (nI M) (nI N) a3 a4 (c.1 2) p'.1 p'.2.1 p'.2.2 (nI i) m2
            unfold PX9_years_L82
            refine br_f (fr_nle hi (by omega)) ?_
            rintro _ rfl
            have f : Fr [] [] [10] [] m2 (sa m2 1 (upd (m2.2.1 1) 10 p'.1)) := Fr_sc (by decide) Fr_refl
            have so0 := Sok_eq l1 (hζ i hi) so
            refine fr_rel (fun k2 j (u : Int32 × OV) => PX9_years_L100 (PX9_years_L82 post k) post k2 (nI M) (nI N) a3 a4 (c.1 2) p'.2.1 u.1 (nI i) (nI j) u.2) (fun j u => u.1 = (ydN (rhoS c pr) h S T Q K a3 j (p'.1, ζ i, p'.2.2)).2.2 ∧ u.2.2.1 1 10 = (ydN (rhoS c pr) h S T Q K a3 j (p'.1, ζ i, p'.2.2)).1 ∧ Kp m u.2 ∧ HRel h S T Q K u.2 ∧ SRel (ydN (rhoS c pr) h S T Q K a3 j (p'.1, ζ i, p'.2.2)).2.1 S T Q u.2 ∧ RuR (rhoS c pr) u.2) N (p'.2.2, sa m2 1 (upd (m2.2.1 1) 10 p'.1)) ⟨rfl, upd_eq (m2.2.1 1) 10 p'.1, Kp_fr r2.1 f (by decide) (by decide) (by decide) (by decide), HRel_fr f (by decide) (by decide) r2.2.1, SRel_fr f (by decide) (by decide) (SRel_eq l1 lim.2.1 l3 (hζ i hi) r2.2.2.1), RuR_fr f (by decide) (by decide) r2.2.2.2.1⟩ ?_ ?_
            · rintro k2 ⟨f2, m3⟩ ⟨ef, e10, k3, hr3, sr3, ru3⟩
              have ef' : f2 = (ydN (rhoS c pr) h S T Q K a3 N (p'.1, ζ i, p'.2.2)).2.2 := ef
              have e10' : m3.2.1 1 10 = (ydN (rhoS c pr) h S T Q K a3 N (p'.1, ζ i, p'.2.2)).1 := e10
              show PX9_years_L100 (PX9_years_L82 post k) post (k2 + 1) (nI M) (nI N) a3 a4 (c.1 2) p'.2.1 f2 (nI i) (nI N) m3
              unfold PX9_years_L100 PX9_years_b163
              refine br_t (Int32.le_refl _) ?_
              rintro _ rfl
              have k4 := Kp_fr k3 (Fr_si (I := [50]) (A := []) (C := []) (L := []) (k := 50) (x := 0) (by decide) Fr_refl) (by decide) (by decide) (by decide) (by decide)
              rw [show (si m3 50 0).2.1 1 ((7 : Int32)).toNatClampNeg = (ydN (rhoS c pr) h S T Q K a3 N (p'.1, ζ i, p'.2.2)).2.1.1 2 from sr3.1.2.1, show (si m3 50 0).2.1 1 ((10 : Int32)).toNatClampNeg = (ydN (rhoS c pr) h S T Q K a3 N (p'.1, ζ i, p'.2.2)).1 from e10']
              have st : itn (ym1 (rhoS c pr) h S T Q K a3 N ζ) (i + 1) (c.1 2, 0, 0) = ym1 (rhoS c pr) h S T Q K a3 N ζ i p' := by rw [ep2']; rfl
              have xn := yd_x (ρ := rhoS c pr) (h := h) (S := S) (T := T) (Q := Q) (K := K) (p := a3) (y := (p'.1, ζ i, p'.2.2)) hx' N
              unfold ym1 at st
              refine br_nc (fun e => ?_) (fun e => ?_)
              · rw [if_neg e] at st
                rintro _ rfl _ rfl
                refine tr_back w0 rl mi.2 k4 rfl (fun m5 ag5 hl5 r5 => ?_)
                rintro _ rfl
                rw [nI_1, ef']
                exact next (((ydN (rhoS c pr) h S T Q K a3 N (p'.1, ζ i, p'.2.2)).1, p'.2.1 + 0, (ydN (rhoS c pr) h S T Q K a3 N (p'.1, ζ i, p'.2.2)).2.2), m5) ⟨st.symm, xn, ag5, r5⟩
              · rw [if_pos e] at st
                rintro _ rfl _ rfl
                refine tr_back w0 rl mi.2 k4 rfl (fun m5 ag5 hl5 r5 => ?_)
                rintro _ rfl
                rw [nI_1, ef']
                exact next (((ydN (rhoS c pr) h S T Q K a3 N (p'.1, ζ i, p'.2.2)).1, p'.2.1 + 1, (ydN (rhoS c pr) h S T Q K a3 N (p'.1, ζ i, p'.2.2)).2.2), m5) ⟨st.symm, xn, ag5, r5⟩
            · rintro k2 j ⟨f2, m3⟩ hj ⟨ef, e10, k3, hr3, sr3, ru3⟩ next2
              have ef' : f2 = (ydN (rhoS c pr) h S T Q K a3 j (p'.1, ζ i, p'.2.2)).2.2 := ef
              have xn := yd_x (ρ := rhoS c pr) (h := h) (S := S) (T := T) (Q := Q) (K := K) (p := a3) (y := (p'.1, ζ i, p'.2.2)) hx' j
              have soj := Sok_yd (ρ := rhoS c pr) (h := h) (T := T) (K := K) (p := a3) l1 l3 (y := (p'.1, ζ i, p'.2.2)) so0 j
              have st : ydN (rhoS c pr) h S T Q K a3 (j + 1) (p'.1, ζ i, p'.2.2) = yd1 (rhoS c pr) h S T Q K a3 (ydN (rhoS c pr) h S T Q K a3 j (p'.1, ζ i, p'.2.2)) := rfl
              have e10' : m3.2.1 1 ((10 : Int32)).toNatClampNeg = (ydN (rhoS c pr) h S T Q K a3 j (p'.1, ζ i, p'.2.2)).1 := e10
              generalize ydN (rhoS c pr) h S T Q K a3 j (p'.1, ζ i, p'.2.2) = y at *
              show PX9_years_L100 (PX9_years_L82 post k) post (k2 + 1) (nI M) (nI N) a3 a4 (c.1 2) p'.2.1 f2 (nI i) (nI j) m3
              unfold PX9_years_L100 PX9_draws
              refine br_f (fr_nle hj (by omega)) ?_
              rw [e10', (dr_eq xn).1]
              rintro _ rfl _ rfl
              refine ⟨by decide, ?_⟩
              have go : ∀ t1 : Int32, (t1 = 0 ∨ t1 = 1) → ((t1 = 1) = (¬ a3 ≤ mdS (drS y.1))) → PX9_years_b122 (PX9_years_L82 post k) (PX9_years_L100 (PX9_years_L82 post k) post k2) post t1 (nI M) (nI N) a3 a4 (c.1 2) p'.2.1 f2 (nI i) (nI j) (sa m3 1 (upd (m3.2.1 1) 10 (drS y.1))) := by
                intro t1 ht et
                unfold PX9_years_b122
                rintro _ rfl
                have f4 : Fr [50] [] [10] [] m3 (si (sa m3 1 (upd (m3.2.1 1) 10 (drS y.1))) 50 t1) := Fr_si (by decide) (Fr_sc (by decide) Fr_refl)
                refine mp_goes lim hv soj (HRel_fr f4 (by decide) (by decide) hr3) (SRel_fr f4 (by decide) (by decide) sr3) (RuR_fr f4 (by decide) (by decide) ru3) ht (fun m5 f5 sr5 => ?_)
                rintro _ rfl _ rfl
                rw [nI_1]
                have sr5' : SRel (passS (rhoS c pr) h S T Q K (t1 = 1) y.2.1) S T Q m5 := sr5
                rw [et] at sr5'
                refine next2 (f2 + pasN (rhoS c pr) h S T Q y.2.1, m5) ⟨by rw [st, ef']; rfl, ?_, Kp_fr (Kp_fr k3 f4 (by decide) (by decide) (by decide) (by decide)) f5 (by decide) (by decide) (by decide) (by decide), HRel_fr f5 (by decide) (by decide) (HRel_fr f4 (by decide) (by decide) hr3), by rw [st]; exact sr5', RuR_fr f5 (by decide) (by decide) (RuR_fr f4 (by decide) (by decide) ru3)⟩
                rw [st]
                exact (f5.2.2.1 10 (by decide)).trans (upd_eq (m3.2.1 1) 10 (drS y.1))
              refine br_c (fun g => go 0 (Or.inl rfl) ?_) (fun g => go 1 (Or.inr rfl) ?_)
              · have g' : a3 ≤ mdS (drS y.1) := g
                exact propext ⟨fun y => absurd y (by decide), fun y => absurd g' y⟩
              · have g' : ¬ a3 ≤ mdS (drS y.1) := g
                exact propext ⟨fun _ => g', fun _ => rfl⟩
        exact br_nc (fun e => ref _ (fun m2 ag hl => br_nf e ⟨rfl, Sim_keep q2 ag hl sim0⟩)) (fun e => ref _ (fun m2 ag hl => br_nt e ⟨rfl, Sim_keep q2 ag hl sim0⟩))
      · rintro k i ⟨p, w2, z2, pr2⟩ hi ⟨q2, ζ, hζ, ep⟩ next
        have ep' : p = itn (ym1 (rhoS c pr) h S T Q K a3 N ζ) i (c.1 2, 0, 0) := ep
        have q2' : PrEq pr pr2 := q2
        show PX8_years_L61 t c h s n _ (k + 1) (nI M) (nI N) a3 a4 p.1 p.2.1 p.2.2 (nI i) w2 z2 pr2
        unfold PX8_years_L61
        refine br_f (fr_nle hi (by omega)) (cp_copy (fun z3 ez3 => ?_))
        have so3 := Sok_eq l1 ez3 so
        refine fr_rel (fun k2 j (u : (Int32 × OV × Int32) × OV × (Nat → OV)) => PX8_years_L84 t c h s n (PX8_years_L61 t c h s n (fun r w' z' pr' => PX9_years m (nI M) (nI N) a3 a4 (fun r' m' => r = r' ∧ Sim t c h s pp pr' n im m')) k) (fun r w' z' pr' => PX9_years m (nI M) (nI N) a3 a4 (fun r' m' => r = r' ∧ Sim t c h s pp pr' n im m')) k2 (nI M) (nI N) a3 a4 u.1.1 p.2.1 u.1.2.2 (nI i) (nI j) u.2.1 u.1.2.1 u.2.2) (fun j u => PrEq pr u.2.2 ∧ u.1 = ydN (rhoS c pr) h S T Q K a3 j (p.1, z3, p.2.2)) N ((p.1, z3, p.2.2), w2, pr2) ⟨q2', rfl⟩ ?_ ?_
        · rintro k2 ⟨y, w4, pr4⟩ ⟨q4, ey⟩
          have ey' : y = ydN (rhoS c pr) h S T Q K a3 N (p.1, z3, p.2.2) := ey
          show PX8_years_L84 t c h s n _ _ (k2 + 1) (nI M) (nI N) a3 a4 y.1 p.2.1 y.2.2 (nI i) (nI N) w4 y.2.1 pr4
          unfold PX8_years_L84 PX8_years_b166
          rw [nI_1]
          have st : itn (ym1 (rhoS c pr) h S T Q K a3 N (va_up ζ i z3)) (i + 1) (c.1 2, 0, 0) = ym1 (rhoS c pr) h S T Q K a3 N (va_up ζ i z3) i p := by
            show ym1 (rhoS c pr) h S T Q K a3 N (va_up ζ i z3) i (itn (ym1 (rhoS c pr) h S T Q K a3 N (va_up ζ i z3)) i (c.1 2, 0, 0)) = _
            rw [itn_congr i (g := ym1 (rhoS c pr) h S T Q K a3 N ζ) (fun j hj x => by unfold ym1; rw [show va_up ζ i z3 j = ζ j from if_neg (by omega)]), ← ep']
          unfold ym1 at st
          rw [show va_up ζ i z3 i = z3 from if_pos rfl, ← ey'] at st
          have hz : ∀ j, j < i + 1 → SEq s (va_up ζ i z3 j) := fun j hj => by
            unfold va_up
            by_cases g : j = i
            · rw [if_pos g]; exact ez3
            · rw [if_neg g]; exact hζ j (by omega)
          refine br_t (Int32.le_refl _) (br_nc (fun e => ?_) (fun e => ?_))
          · rw [if_neg e] at st
            rintro _ rfl _ rfl
            exact next ((y.1, p.2.1 + 0, y.2.2), w4, y.2.1, pr4) ⟨q4, va_up ζ i z3, hz, st.symm⟩
          · rw [if_pos e] at st
            rintro _ rfl _ rfl
            exact next ((y.1, p.2.1 + 1, y.2.2), w4, y.2.1, pr4) ⟨q4, va_up ζ i z3, hz, st.symm⟩
        · rintro k2 j ⟨y, w4, pr4⟩ hj ⟨q4, ey⟩ next2
          have ey' : y = ydN (rhoS c pr) h S T Q K a3 j (p.1, z3, p.2.2) := ey
          have q4' : PrEq pr pr4 := q4
          have st : ydN (rhoS c pr) h S T Q K a3 (j + 1) (p.1, z3, p.2.2) = yd1 (rhoS c pr) h S T Q K a3 y := by rw [ey']; rfl
          show PX8_years_L84 t c h s n (PX8_years_L61 t c h s n (fun r w' z' pr' => PX9_years m (nI M) (nI N) a3 a4 (fun r' m' => r = r' ∧ Sim t c h s pp pr' n im m')) k) (fun r w' z' pr' => PX9_years m (nI M) (nI N) a3 a4 (fun r' m' => r = r' ∧ Sim t c h s pp pr' n im m')) (k2 + 1) (nI M) (nI N) a3 a4 y.1 p.2.1 y.2.2 (nI i) (nI j) w4 y.2.1 pr4
          unfold PX8_years_L84 PX8_drawnAfter
          refine br_f (fr_nle hj (by omega)) ?_
          have rl4 := Rls_pr q4' rl
          refine cp_ruleInForce fc rl4 (fun o ho eo => ?_)
          have go : ∀ t5 : Int32, ((¬ t5 = 0) = (¬ a3 ≤ mdS (drS y.1))) → PX8_years_b136 t c h s n (PX8_years_L61 t c h s n (fun r w' z' pr' => PX9_years m (nI M) (nI N) a3 a4 (fun r' m' => r = r' ∧ Sim t c h s pp pr' n im m')) k) (PX8_years_L84 t c h s n (PX8_years_L61 t c h s n (fun r w' z' pr' => PX9_years m (nI M) (nI N) a3 a4 (fun r' m' => r = r' ∧ Sim t c h s pp pr' n im m')) k) (fun r w' z' pr' => PX9_years m (nI M) (nI N) a3 a4 (fun r' m' => r = r' ∧ Sim t c h s pp pr' n im m')) k2) (fun r w' z' pr' => PX9_years m (nI M) (nI N) a3 a4 (fun r' m' => r = r' ∧ Sim t c h s pp pr' n im m')) y.2.2 o t5 (nI M) (nI N) a3 a4 (drS y.1) p.2.1 (nI i) (nI j) w4 y.2.1 pr4 := by
            intro t5 et
            unfold PX8_years_b136
            rw [nI_1]
            refine ⟨fun en => ?_, fun i' ei => ?_⟩
            · subst en
              refine cp_pass_N hok (fun w5 => ?_)
              rintro _ rfl _ rfl
              refine next2 ((drS y.1, passS none h S T Q K (¬ t5 = 0) y.2.1, y.2.2 + pasN none h S T Q y.2.1), w5, pr4) ⟨q4', ?_⟩
              rw [st]
              unfold yd1
              have e2 := rho_pass q4' c h S T Q K (¬ a3 ≤ mdS (drS y.1)) y.2.1
              have eo' : (none : Option OV) = rhoS c pr4 := eo
              rw [et, ← e2.1, ← e2.2, ← eo']
            · subst ei
              refine cp_pass_R hok (rl4.2.2.2 i' (ho i' rfl)).1 (fun w5 f5 => ?_)
              rintro _ rfl _ rfl
              refine next2 ((drS y.1, passS (some (pr4 i')) h S T Q K (¬ t5 = 0) y.2.1, y.2.2 + pasN (some (pr4 i')) h S T Q y.2.1), w5, _) ⟨PrEq_trans q4' (PrEq_up i' f5), ?_⟩
              rw [st]
              unfold yd1
              have e2 := rho_pass q4' c h S T Q K (¬ a3 ≤ mdS (drS y.1)) y.2.1
              have eo' : some (pr4 i') = rhoS c pr4 := eo
              rw [et, ← e2.1, ← e2.2, ← eo']
          refine br_c (fun g => go 0 ?_) (fun g => go 1 ?_)
          · have g' : a3 ≤ mdS (drS y.1) := g
            exact propext ⟨fun u => absurd rfl u, fun u => absurd g' u⟩
          · have g' : ¬ a3 ≤ mdS (drS y.1) := g
            exact propext ⟨fun _ => g', fun _ => by decide⟩
    · obtain ⟨k, hk, rfl⟩ := q
      exact g6 (fr_le (b := 100) (by omega) (by omega))
  · rw [zb_f A]
    exact br_t rfl (noR (Or.inl A))
