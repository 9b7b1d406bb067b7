/-! 76: trials: hiding, wanders, shows -/
theorem rho_pass {pr pr' : Nat → OV} (q : PrEq pr pr') (c h : OV) (S T Q K : Nat) (dr : Prop) (z : OV) : passS (rhoS c pr') h S T Q K dr z = passS (rhoS c pr) h S T Q K dr z ∧ pasN (rhoS c pr') h S T Q z = pasN (rhoS c pr) h S T Q z := by
  have eo : ∀ pr : Nat → OV, rhoS c pr = rhoO pr (if c.1 1 = -1 then none else some (c.1 1).toNatClampNeg) := by
    intro pr
    unfold rhoS rhoO
    split <;> rfl
  rw [eo pr', eo pr]
  exact pass_pr q (if c.1 1 = -1 then none else some (c.1 1).toNatClampNeg) h S T Q K dr z
theorem rho_days {pr pr' : Nat → OV} (q : PrEq pr pr') (c h : OV) (S T Q K n : Nat) (z : OV) : daysS (rhoS c pr') h S T Q K n z = daysS (rhoS c pr) h S T Q K n z := itn_congr n (fun i _ x => (rho_pass q c h S T Q K False x).1)
theorem rho_dsN {pr pr' : Nat → OV} (q : PrEq pr pr') (c h : OV) (S T Q K n : Nat) (z : OV) : dsN (rhoS c pr') h S T Q K n z = dsN (rhoS c pr) h S T Q K n z := itn_congr n (fun i _ x => by rw [rho_days q, (rho_pass q c h S T Q K False _).2])
theorem days_1 {ρ : Option OV} {h z : OV} {S T Q K : Nat} : daysS ρ h S T Q K 1 z = passS ρ h S T Q K False z := rfl
theorem days_s {ρ : Option OV} {h z : OV} {S T Q K i : Nat} : passS ρ h S T Q K False (daysS ρ h S T Q K i z) = daysS ρ h S T Q K (i + 1) z := rfl
/-- the bit of a place, none for none -/
def bitO (x : Int32) : Int32 := if x = -1 then 0 else (1 : Int32) <<< (x &&& 31)
theorem cp_bit {x : Int32} {S : Nat} (hS : S ≤ 10) (h : x = -1 ∨ isIx x S) {post : Int32 → Prop} (hp : post (bitO x)) : PX8_bit x post := by
  unfold PX8_bit
  unfold bitO at hp
  rcases h with rfl | ⟨k, hk, rfl⟩
  · exact br_t (by decide) hp
  · rw [if_neg (nI_n1 (by omega))] at hp
    exact br_f (nI_pos (by omega)) (br_f (fr_nle (b := 30) (by omega) (by omega)) hp)
theorem mk_or : ∀ L, L < 1024 → ∀ t, t < 10 → nI L ||| ((1 : Int32) <<< (nI t &&& 31)) = nI (L ||| 2 ^ t) ∧ L ||| 2 ^ t < 1024 := by decide +kernel
theorem or_bitO {L S : Nat} {x : Int32} (hS : S ≤ 10) (hL : L < 1024) (h : x = -1 ∨ isIx x S) : ∃ L', L' < 1024 ∧ nI L ||| bitO x = nI L' := by
  unfold bitO
  rcases h with rfl | ⟨k, hk, rfl⟩
  · exact ⟨L, hL, by rw [if_pos rfl, or_0]⟩
  · rw [if_neg (nI_n1 (by omega))]
    exact ⟨L ||| 2 ^ k, (mk_or L hL k (by omega)).2, (mk_or L hL k (by omega)).1⟩
theorem z_or (x : Int32) : 0 ||| x = x := by
  apply b_ext
  intro i hi
  rw [b_or, b_0, Bool.false_or]
/-- where the tin was on the days 0 .. n - 1 -/
noncomputable def wdS (ρ : Option OV) (h : OV) (S T Q K n : Nat) (z : OV) : Int32 := itn (fun i b => b ||| bitO ((daysS ρ h S T Q K i z).1 2)) n 0
theorem wd_small {ρ : Option OV} {h z : OV} {S T Q K d : Nat} (l1 : S ≤ 10) (l3 : Q ≤ 4) (so : Sok z S Q d d) : ∀ n, ∃ L, L < 1024 ∧ wdS ρ h S T Q K n z = nI L
  | 0 => ⟨0, by omega, rfl⟩
  | n + 1 => by
    obtain ⟨L, hL, e⟩ := wd_small (ρ := ρ) (h := h) (T := T) (K := K) l1 l3 so n
    show ∃ L, L < 1024 ∧ wdS ρ h S T Q K n z ||| bitO ((daysS ρ h S T Q K n z).1 2) = nI L
    rw [e]
    exact or_bitO l1 hL (Sok_days l1 l3 so n).2.1
theorem sim_wanders {n : Nat} {t c h s w z m : OV} {pp pr : Nat → OV} {im : Nat → Option IMG} {x : Int32} (sim : Sim t c h s pp pr n im m) : PX8_wanders t c h s w z pr n x (fun r w' z' pr' => PX9_wanders m x (fun r' m' => r = r' ∧ Sim t c h s pp pr' n im m')) := by
  have sim0 := sim
  obtain ⟨⟨S, T, Q, K, d, w0⟩, tap, rl, mi, ims⟩ := sim
  have w0' := w0
  obtain ⟨hok, hv, hr, so, hd, sr, td, nm, fc, dw, ps⟩ := w0'
  have lim := hok.1
  have l1 := lim.1
  have l3 := lim.2.2.1
  have noR : (h.1 0 = 0 ∨ ¬ (1 ≤ x ∧ x ≤ 100)) → PX9_wanders m x (fun r' m' => (-1 : Int32) = r' ∧ Sim t c h s pp pr n im m') := by
    intro y
    unfold PX9_wanders
    refine mp_isHill hv hr (br_c (fun _ => ⟨rfl, sim0⟩) (fun q => sp_in32 (lo := 1) (hi := 100) (by decide) (by decide) ?_))
    rw [zb_f (y.resolve_left q)]
    exact br_nt rfl ⟨rfl, sim0⟩
  unfold PX8_wanders
  refine br_c (fun t0 => noR (Or.inl t0)) (fun tn => br_c (fun g => noR (Or.inr (fun q => absurd g (Int32.not_lt.mpr q.1)))) (fun g => br_c (fun g2 => ?_) (fun g2 => noR (Or.inr (fun q => g2 q.2)))))
  have gx : 1 ≤ x ∧ x ≤ 100 := ⟨Int32.not_lt.mp g, g2⟩
  have nn : ¬ x < 0 := fun y => g (Int32.lt_trans y (by decide))
  obtain ⟨N, hN, rfl⟩ := ix_le (n := 100) (by omega) nn g2
  refine cp_copy (fun z1 ez => ?_)
  have so1 := Sok_eq l1 ez so
  refine cp_bit l1 so1.2.1 ?_
  refine fr_rel (fun k i (p : Int32 × OV × OV × (Nat → OV)) => PX8_wanders_L53 t c h s n _ k (nI N) p.1 (nI i) p.2.1 p.2.2.1 p.2.2.2) (fun i p => p.1 = wdS (rhoS c pr) h S T Q K (i + 1) z1 ∧ p.2.2.1 = daysS (rhoS c pr) h S T Q K i z1 ∧ PrEq pr p.2.2.2) N (bitO (z1.1 2), w, z1, pr) ⟨(z_or _).symm, rfl, PrEq_refl pr⟩ ?_ ?_
  · rintro k ⟨b, w2, z2, pr2⟩ ⟨e1, e2, q2⟩
    show PX8_wanders_L53 t c h s n _ (k + 1) (nI N) b (nI N) w2 z2 pr2
    unfold PX8_wanders_L53
    refine br_t (Int32.le_refl _) ?_
    obtain ⟨L, hL, eL⟩ := wd_small (ρ := rhoS c pr) (h := h) (T := T) (K := K) l1 l3 so1 (N + 1)
    rw [show b = nI L from Eq.trans e1 eL]
    refine cp_bitCount hL ?_
    unfold PX9_wanders
    refine mp_isHill hv hr (br_f tn (sp_in32 (lo := 1) (hi := 100) (by decide) (by decide) ?_))
    rw [zb_t gx]
    refine br_nf (by decide) (tr_keep w0 rl mi.2 (fun m1 r1 => ?_))
    refine fr_rel (fun k i (p : Int32 × OV) => PX9_wanders_L29 _ k (nI N) p.1 (nI i) p.2) (fun i p => p.1 = wdS (rhoS c pr) h S T Q K i z1 ∧ TrI m (rhoS c pr) h S T Q K (daysS (rhoS c pr) h S T Q K i z1) p.2) (N + 1) (0, m1) ⟨rfl, TrI_eq lim ez r1⟩ ?_ ?_
    · rintro k ⟨b, m2⟩ ⟨e1, r2⟩
      show PX9_wanders_L29 _ (k + 1) (nI N) b (nI (N + 1)) m2
      unfold PX9_wanders_L29
      refine br_t (nI_lt (by omega) (by omega)) (tr_back w0 rl mi.2 r2.1 r2.2.2.2.2 (fun m3 ag hl _ => mp_bits ⟨?_, Sim_keep q2 ag hl sim0⟩))
      rw [show b = nI L from Eq.trans e1 eL]
    · rintro k i ⟨b, m2⟩ hi ⟨e1, r2⟩ next
      have e1' : b = wdS (rhoS c pr) h S T Q K i z1 := e1
      show PX9_wanders_L29 _ (k + 1) (nI N) b (nI i) m2
      unfold PX9_wanders_L29 PX9_wanders_b59
      have e7 : m2.2.1 1 ((7 : Int32)).toNatClampNeg = (daysS (rhoS c pr) h S T Q K i z1).1 2 := r2.2.2.1.1.2.1
      rw [e7]
      have st : wdS (rhoS c pr) h S T Q K (i + 1) z1 = b ||| bitO ((daysS (rhoS c pr) h S T Q K i z1).1 2) := by rw [e1']; rfl
      unfold bitO at st
      refine br_f (nI_nlt (by omega) (by omega)) (br_nc (fun e => ?_) (fun e => ?_))
      · rw [if_neg e] at st
        rintro _ rfl
        refine tr_goes lim hv (Sok_days l1 l3 so1 i) r2 (fun m3 r3 => ?_)
        rintro _ rfl
        rw [nI_1]
        exact next (_, m3) ⟨st.symm, r3⟩
      · rw [if_pos e] at st
        rintro _ rfl
        refine tr_goes lim hv (Sok_days l1 l3 so1 i) r2 (fun m3 r3 => ?_)
        rintro _ rfl
        rw [nI_1]
        exact next (_, m3) ⟨st.symm, r3⟩
  · rintro k i ⟨b, w2, z2, pr2⟩ hi ⟨e1, e2, q2⟩ next
    have e1' : b = wdS (rhoS c pr) h S T Q K (i + 1) z1 := e1
    have e2' : z2 = daysS (rhoS c pr) h S T Q K i z1 := e2
    have q2' : PrEq pr pr2 := q2
    show PX8_wanders_L53 t c h s n _ (k + 1) (nI N) b (nI i) w2 z2 pr2
    unfold PX8_wanders_L53
    refine br_f (fr_nle hi (by omega)) (cp_goOn (N := 1) (by omega) hok fc (Rls_pr q2' rl) (fun w3 pr3 q3 => ?_))
    rw [rho_days q2', e2', days_1, days_s]
    refine cp_bit l1 (Sok_days l1 l3 so1 (i + 1)).2.1 ?_
    rintro _ rfl _ rfl
    rw [nI_1]
    exact next (_, w3, _, pr3) ⟨by rw [e1']; rfl, rfl, PrEq_trans q2' q3⟩
theorem sim_hiding {n : Nat} {t c h s w z m : OV} {pp pr : Nat → OV} {im : Nat → Option IMG} {x y : Int32} (sim : Sim t c h s pp pr n im m) : PX8_hiding t c h s w z pr n x y (fun r w' z' pr' => PX9_hiding m x y (fun r' m' => r = r' ∧ Sim t c h s pp pr' n im m')) := by
  have sim0 := sim
  obtain ⟨⟨S, T, Q, K, d, w0⟩, tap, rl, mi, ims⟩ := sim
  have w0' := w0
  obtain ⟨hok, hv, hr, so, hd, sr, td, nm, fc, dw, ps⟩ := w0'
  have lim := hok.1
  have l1 := lim.1
  have l3 := lim.2.2.1
  have noR : (¬ (h.1 0 = 1 ∧ isIx y 2) ∨ ¬ (1 ≤ x ∧ x ≤ 60)) → PX9_hiding m x y (fun r' m' => (-1 : Int32) = r' ∧ Sim t c h s pp pr n im m') := by
    intro g
    unfold PX9_hiding
    refine mp_isHill hv hr (br_c (fun _ => ⟨rfl, sim0⟩) (fun q => sp_in32 (lo := 1) (hi := 60) (by decide) (by decide) ?_))
    by_cases a : 1 ≤ x ∧ x ≤ 60
    · rw [zb_t a]
      refine br_f (by decide) (mp_inC 2 (by omega) (by decide) ?_)
      rw [zb_f (fun b => (g.resolve_right (fun k => k a)) ⟨(told_iff hv).mp q, b⟩)]
      exact br_nt rfl ⟨rfl, sim0⟩
    · rw [zb_f a]
      exact br_t rfl ⟨rfl, sim0⟩
  unfold PX8_hiding
  refine cp_isTold hv ?_
  by_cases A : h.1 0 = 1 ∧ isIx y 2
  · rw [zb_t A]
    have tn : ¬ h.1 0 = 0 := (told_iff hv).mpr A.1
    refine br_f (by decide) (br_c (fun g => noR (Or.inr (fun q => absurd g (Int32.not_lt.mpr q.1)))) (fun g => br_c (fun g2 => ?_) (fun g2 => noR (Or.inr (fun q => g2 q.2)))))
    have gx : 1 ≤ x ∧ x ≤ 60 := ⟨Int32.not_lt.mp g, g2⟩
    have nn : ¬ x < 0 := fun y => g (Int32.lt_trans y (by decide))
    obtain ⟨N, hN, rfl⟩ := ix_le (n := 60) (by omega) nn g2
    -- what a stone comes to, with the trial that began it
    have HD : ∃ HD : (Nat → OV) → Nat → Int32 × Int32 × Int32 → Int32 × Int32 × Int32, ∀ ζ j p, HD ζ j p = (if p.2.1 < bitsS (fbS ((daysS (rhoS c pr) h S T Q K N (ζ j)).2.1 6) 4) then (nI j, bitsS (fbS ((daysS (rhoS c pr) h S T Q K N (ζ j)).2.1 6) 4), (if (daysS (rhoS c pr) h S T Q K N (ζ j)).1 2 = -1 then (0 : Int32) else 1)) else if bitsS (fbS ((daysS (rhoS c pr) h S T Q K N (ζ j)).2.1 6) 4) = p.2.1 then (if (daysS (rhoS c pr) h S T Q K N (ζ j)).1 2 = -1 then p else if p.2.2 = 0 then (nI j, bitsS (fbS ((daysS (rhoS c pr) h S T Q K N (ζ j)).2.1 6) 4), (1 : Int32)) else p) else p) := ⟨fun ζ j p => _, fun ζ j p => rfl⟩
    obtain ⟨HD, hHD⟩ := HD
    have hcong : ∀ (ζ ζ' : Nat → OV) j, ζ j = ζ' j → ∀ p, HD ζ j p = HD ζ' j p := by
      intro ζ ζ' j e p
      rw [hHD, hHD, e]
    refine fr_rel (fun k i (p : (Int32 × Int32 × Int32) × OV × OV × (Nat → OV)) => PX8_hiding_L34 t c h s n _ k (nI N) y p.1.1 p.1.2.1 p.1.2.2 (nI i) p.2.1 p.2.2.1 p.2.2.2) (fun i p => PrEq pr p.2.2.2 ∧ ∃ ζ : Nat → OV, (∀ j, j < i → SEq (si s 2 (nI j)) (ζ j)) ∧ p.1 = itn (fun j q => HD ζ j q) i (-2, -2, 0)) S ((-2, -2, 0), w, z, pr) ⟨PrEq_refl pr, fun _ => s, fun j hj => absurd hj (Nat.not_lt_zero j), rfl⟩ ?_ ?_
    · rintro k ⟨p, w2, z2, pr2⟩ ⟨q2, ζ, hζ, ep⟩
      have ep' : p = itn (fun j q => HD ζ j q) S (-2, -2, 0) := ep
      show PX8_hiding_L34 t c h s n _ (k + 1) (nI N) y p.1 p.2.1 p.2.2 (nI S) w2 z2 pr2
      unfold PX8_hiding_L34
      rw [hok.2.1]
      refine br_t (Int32.le_refl _) ?_
      have ref : ∀ post : Int32 → OV → Prop, (∀ m2, AG m m2 → Hld m m2 → ((¬ y = 0 → post p.2.1 m2) ∧ (y = 0 → post p.1 m2))) → PX9_hiding m (nI N) y post := by
        intro post hp
        unfold PX9_hiding
        refine mp_isHill hv hr (br_f tn (sp_in32 (lo := 1) (hi := 60) (by decide) (by decide) ?_))
        rw [zb_t gx]
        refine br_f (by decide) (mp_inC 2 (by omega) (by decide) ?_)
        rw [zb_t A.2]
        refine br_nf (by decide) (mp_keep (fun m1 k1 ag1 e50 => ?_))
        have r1 : TrI m (rhoS c pr) h S T Q K s m1 := ⟨k1, HRel_ag lim ag1 hr, SRel_ag lim ag1 sr, RuR_kp k1 ag1 (RuR_of fc rl), e50.trans mi.2⟩
        refine fr_rel (fun k i (p : (Int32 × Int32 × Int32) × OV) => PX9_hiding_L48 post k (nI N) y p.1.1 p.1.2.1 p.1.2.2 (nI i) p.2) (fun i p => p.1 = itn (fun j q => HD ζ j q) i (-2, -2, 0) ∧ AG m p.2 ∧ TrI m (rhoS c pr) h S T Q K s p.2) S ((-2, -2, 0), m1) ⟨rfl, ag1, r1⟩ ?_ ?_
        · rintro k ⟨p', m2⟩ ⟨ep2, ag2, r2⟩
          have ep3 : p' = p := Eq.trans ep2 ep'.symm
          subst ep3
          show PX9_hiding_L48 post (k + 1) (nI N) y p'.1 p'.2.1 p'.2.2 (nI S) m2
          unfold PX9_hiding_L48
          rw [show m2.2.1 1 ((3 : Int32)).toNatClampNeg = nI S from r2.2.1.1.2.2.1]
          exact br_t (Int32.le_refl _) (hp m2 ag2 (Kp_hld r2.1 (r2.2.2.2.2.trans mi.2.symm)))
        · rintro k i ⟨p', m2⟩ hi ⟨ep2, ag2, r2⟩ next
          have ep2' : p' = itn (fun j q => HD ζ j q) i (-2, -2, 0) := ep2
          show PX9_hiding_L48 post (k + 1) (nI N) y p'.1 p'.2.1 p'.2.2 (nI i) m2
          unfold PX9_hiding_L48
          rw [show m2.2.1 1 ((3 : Int32)).toNatClampNeg = nI S from r2.2.1.1.2.2.1]
          refine br_f (fr_nle hi (by omega)) ?_
          rintro _ rfl
          have f3 : Fr [] [] [7] [] m2 (sa m2 1 (upd (m2.2.1 1) 7 (nI i))) := Fr_sc (by decide) Fr_refl
          have e3 : SEq (si s 2 (nI i)) (ζ i) := hζ i hi
          have r3 : TrI m (rhoS c pr) h S T Q K (ζ i) (sa m2 1 (upd (m2.2.1 1) 7 (nI i))) := ⟨Kp_fr r2.1 f3 (by decide) (by decide) (by decide) (by decide), HRel_fr f3 (by decide) (by decide) r2.2.1, SRel_eq l1 lim.2.1 l3 e3 (SRel_tin (nI i) r2.2.2.1), RuR_fr f3 (by decide) (by decide) r2.2.2.2.1, r2.2.2.2.2⟩
          have so3 : Sok (ζ i) S Q d d := Sok_eq l1 e3 (Sok_tin (Or.inr ⟨i, hi, rfl⟩) so)
          refine tr_goFor lim hv so3 (by omega) r3 (fun m4 r4 => mp_foundBy l3 r4.2.1.1.2.2.2.2.1 (mp_bits ?_))
          have so4 := Sok_days (ρ := rhoS c pr) (h := h) (T := T) (K := K) l1 l3 so3 N
          have efb : fbS (m4.2.1 11) Q = fbS ((daysS (rhoS c pr) h S T Q K N (ζ i)).2.1 6) 4 := by
            rw [fbS_4 l3 (fun q a b => (so4.2.2.2.2.2 q a b).1)]
            exact fbS_congr (fun q hq => (r4.2.2.1.2.2.2 q hq).2.1)
          rw [efb, show m4.2.1 1 ((7 : Int32)).toNatClampNeg = (daysS (rhoS c pr) h S T Q K N (ζ i)).1 2 from r4.2.2.1.1.2.1]
          have st : itn (fun j q => HD ζ j q) (i + 1) (-2, -2, 0) = HD ζ i p' := by rw [ep2']; rfl
          rw [hHD] at st
          have nx : ∀ m3, AG m m3 → TrI m (rhoS c pr) h S T Q K s m3 → ∀ p2, itn (fun j q => HD ζ j q) (i + 1) (-2, -2, 0) = p2 → PX9_hiding_L48 post k (nI N) y p2.1 p2.2.1 p2.2.2 (nI (i + 1)) m3 := fun m3 a b p2 e => next (p2, m3) ⟨e.symm, a, b⟩
          have b98 : ∀ t0, (t0 = if (daysS (rhoS c pr) h S T Q K N (ζ i)).1 2 = -1 then (0 : Int32) else 1) → PX9_hiding_b98 (PX9_hiding_L48 post k) post t0 (nI N) y p'.1 p'.2.1 p'.2.2 (nI i) (bitsS (fbS ((daysS (rhoS c pr) h S T Q K N (ζ i)).2.1 6) 4)) m4 := by
            intro t0 et0
            unfold PX9_hiding_b98 PX9_hiding_b128
            refine tr_back w0 rl mi.2 r4.1 r4.2.2.2.2 (fun m5 ag5 hl5 r5 => ?_)
            rw [nI_1]
            by_cases c1 : p'.2.1 < bitsS (fbS ((daysS (rhoS c pr) h S T Q K N (ζ i)).2.1 6) 4)
            · rw [if_pos c1] at st
              refine br_t c1 ?_
              rintro _ rfl
              rw [et0]
              exact nx m5 ag5 r5 _ st
            · rw [if_neg c1] at st
              refine br_f c1 ?_
              by_cases c2 : bitsS (fbS ((daysS (rhoS c pr) h S T Q K N (ζ i)).2.1 6) 4) = p'.2.1
              · rw [if_pos c2] at st
                refine br_nt c2 ?_
                by_cases c3 : (daysS (rhoS c pr) h S T Q K N (ζ i)).1 2 = -1
                · rw [if_pos c3] at st et0
                  refine br_t et0 ?_
                  rintro _ rfl
                  exact nx m5 ag5 r5 _ st
                · rw [if_neg c3] at st et0
                  refine br_f (by rw [et0]; decide) ?_
                  by_cases c4 : p'.2.2 = 0
                  · rw [if_pos c4] at st
                    refine br_nt c4 ?_
                    rintro _ rfl
                    rw [et0]
                    exact nx m5 ag5 r5 _ st
                  · rw [if_neg c4] at st
                    refine br_nf c4 ?_
                    rintro _ rfl
                    exact nx m5 ag5 r5 _ st
              · rw [if_neg c2] at st
                refine br_nf c2 ?_
                rintro _ rfl
                exact nx m5 ag5 r5 _ st
          exact br_c (fun e => b98 0 (by rw [if_pos e])) (fun e => b98 1 (by rw [if_neg e]))
      exact br_nc (fun e => ref _ (fun m2 ag hl => br_nf e ⟨rfl, Sim_keep q2 ag hl sim0⟩)) (fun e => ref _ (fun m2 ag hl => br_nt e ⟨rfl, Sim_keep q2 ag hl sim0⟩))
    · rintro k i ⟨p, w2, z2, pr2⟩ hi ⟨q2, ζ, hζ, ep⟩ next
      have ep' : p = itn (fun j q => HD ζ j q) i (-2, -2, 0) := ep
      have q2' : PrEq pr pr2 := q2
      show PX8_hiding_L34 t c h s n _ (k + 1) (nI N) y p.1 p.2.1 p.2.2 (nI i) w2 z2 pr2
      unfold PX8_hiding_L34
      rw [hok.2.1]
      refine br_f (fr_nle hi (by omega)) (cp_copy (fun z3 ez3 => ?_))
      rintro _ rfl
      have e3 : SEq (si s 2 (nI i)) (si z3 2 (nI i)) := ⟨⟨ez3.1.1, ez3.1.2.1, rfl⟩, ez3.2⟩
      refine cp_goOn (by omega) hok fc (Rls_pr q2' rl) (fun w4 pr4 q4 => cp_finders ?_)
      rw [rho_days q2']
      have st : itn (fun j q => HD (va_up ζ i (si z3 2 (nI i))) j q) (i + 1) (-2, -2, 0) = HD (va_up ζ i (si z3 2 (nI i))) i p := by
        show HD (va_up ζ i (si z3 2 (nI i))) i (itn (fun j q => HD (va_up ζ i (si z3 2 (nI i))) j q) i (-2, -2, 0)) = _
        rw [itn_congr i (g := fun j q => HD ζ j q) (fun j hj q => hcong _ _ j (if_neg (by omega)) q), ← ep']
      rw [hHD, show va_up ζ i (si z3 2 (nI i)) i = si z3 2 (nI i) from if_pos rfl] at st
      have nx : ∀ p2, itn (fun j q => HD (va_up ζ i (si z3 2 (nI i))) j q) (i + 1) (-2, -2, 0) = p2 → PX8_hiding_L34 t c h s n (fun r w' z' pr' => PX9_hiding m (nI N) y (fun r' m' => r = r' ∧ Sim t c h s pp pr' n im m')) k (nI N) y p2.1 p2.2.1 p2.2.2 (nI (i + 1)) w4 (daysS (rhoS c pr) h S T Q K N (si z3 2 (nI i))) pr4 := fun p2 e => next (p2, w4, _, pr4) ⟨PrEq_trans q2' q4, va_up ζ i (si z3 2 (nI i)), fun j hj => by
        unfold va_up
        by_cases g : j = i
        · rw [if_pos g, g]; exact e3
        · rw [if_neg g]; exact hζ j (by omega), e.symm⟩
      have b103 : ∀ t0, (t0 = if (daysS (rhoS c pr) h S T Q K N (si z3 2 (nI i))).1 2 = -1 then (0 : Int32) else 1) → PX8_hiding_b103 t c h s n (PX8_hiding_L34 t c h s n (fun r w' z' pr' => PX9_hiding m (nI N) y (fun r' m' => r = r' ∧ Sim t c h s pp pr' n im m')) k) (fun r w' z' pr' => PX9_hiding m (nI N) y (fun r' m' => r = r' ∧ Sim t c h s pp pr' n im m')) t0 (nI N) y p.1 p.2.1 p.2.2 (nI i) (bitsS (fbS ((daysS (rhoS c pr) h S T Q K N (si z3 2 (nI i))).2.1 6) 4)) w4 (daysS (rhoS c pr) h S T Q K N (si z3 2 (nI i))) pr4 := by
        intro t0 et0
        unfold PX8_hiding_b103 PX8_hiding_b129
        rw [nI_1]
        by_cases c1 : p.2.1 < bitsS (fbS ((daysS (rhoS c pr) h S T Q K N (si z3 2 (nI i))).2.1 6) 4)
        · rw [if_pos c1] at st
          refine br_t c1 ?_
          rintro _ rfl
          rw [et0]
          exact nx _ st
        · rw [if_neg c1] at st
          refine br_f c1 ?_
          by_cases c2 : bitsS (fbS ((daysS (rhoS c pr) h S T Q K N (si z3 2 (nI i))).2.1 6) 4) = p.2.1
          · rw [if_pos c2] at st
            refine br_nt c2 ?_
            by_cases c3 : (daysS (rhoS c pr) h S T Q K N (si z3 2 (nI i))).1 2 = -1
            · rw [if_pos c3] at st et0
              refine br_t et0 ?_
              rintro _ rfl
              exact nx _ st
            · rw [if_neg c3] at st et0
              refine br_f (by rw [et0]; decide) ?_
              by_cases c4 : p.2.2 = 0
              · rw [if_pos c4] at st
                refine br_nt c4 ?_
                rintro _ rfl
                rw [et0]
                exact nx _ st
              · rw [if_neg c4] at st
                refine br_nf c4 ?_
                rintro _ rfl
                exact nx _ st
          · rw [if_neg c2] at st
            refine br_nf c2 ?_
            rintro _ rfl
            exact nx _ st
      exact br_c (fun e => b103 0 (by rw [if_pos e])) (fun e => b103 1 (by rw [if_neg e]))
  · rw [zb_f A]
    exact br_t rfl (noR (Or.inl A))
