/-! 82: forged, ask -/
theorem b_one (k : Nat) (hk : k < 32) {i : Nat} (hi : i < 32) : bt ((1 : Int32) <<< (nI k &&& 31)) i = decide (i = k) := by
  rw [b_shl k hk 1 hi]
  have k1 : ∀ j, j < 32 → bt 1 j = decide (j = 0) := by decide +kernel
  rw [k1 (i - k) (by omega)]
  by_cases e : i = k
  · rw [decide_eq_true (show k ≤ i by omega), decide_eq_true (show i - k = 0 by omega), decide_eq_true e]
    rfl
  · rw [decide_eq_false e]
    by_cases g : k ≤ i
    · rw [decide_eq_true g, decide_eq_false (show ¬ i - k = 0 by omega)]
      rfl
    · rw [decide_eq_false g]
      rfl
theorem b_full : ∀ nn, nn ≤ 10 → ∀ i, i < 32 → bt (((1 : Int32) <<< (nI nn &&& 31)) - 1) i = decide (i < nn) := by
  have all : ∀ nn, nn < 11 → ∀ i, i < 32 → bt (((1 : Int32) <<< (nI nn &&& 31)) - 1) i = decide (i < nn) := by decide +kernel
  exact fun nn h => all nn (by omega)
theorem b_not (x : Int32) {i : Nat} (hi : i < 32) : bt (x ^^^ (-1)) i = !bt x i := by
  rw [b_xor, b_m1 i hi, Bool.xor_true]
theorem sim_forged {n : Nat} {t c h s w z m : OV} {pp pr : Nat → OV} {im : Nat → Option IMG} (sim : Sim t c h s pp pr n im m) : PX8_forged t c h w z pr n (fun r t' w' z' pr' => PX9_forged m (fun r' m' => r = r' ∧ Sim t' c h s pp pr' n im m')) := by
  have sim0 := sim
  obtain ⟨⟨S, T, Q, K, d, w0⟩, tap, rl, mi, ims⟩ := sim
  have w0' := w0
  obtain ⟨hok, hv, hr, so, hd, sr, td, ⟨nn, n7, n10, n9, nk⟩, fc, dw, ps⟩ := w0'
  have lim := hok.1
  have l1 := lim.1
  have l3 := lim.2.2.1
  have hn := rl.2.1
  unfold PX8_forged
  refine br_nc (fun tn => ?_) (fun t0 => ?_)
  · have tt := (told_iff hv).mp tn
    refine cp_fillWritten hok rl (fun t1 w1 z1 pr1 ζ hζ tw hw q1 => ?_)
    have e5 : t1.1 5 = nI n := by rw [tw.1]; exact rl.1
    refine fr_rel (fun k i (X : Int32) => PX8_forged_L23 c h n _ k X (nI i) t1 w1 z1 pr1) (fun i X => ∀ j, j < 32 → (bt X j = true ↔ j < i ∧ ∀ r, r ≤ n → ¬ hol (WR pr ζ h S T Q K) c r j)) nn 0 (fun j hj => ⟨fun y => (by rw [b_0] at y; cases y), fun y => absurd y.1 (Nat.not_lt_zero j)⟩) ?_ ?_
    · intro k X hX
      unfold PX8_forged_L23
      rw [n7]
      refine br_t (Int32.le_refl _) ?_
      unfold PX9_forged
      refine mp_isHill hv hr (br_nf tn ?_)
      rw [show m.2.1 1 ((9 : Int32)).toNatClampNeg = nI nn from n9]
      rintro _ rfl
      refine mp_keep (fun m1 k1 ag1 e50 => ?_)
      have r1 : TrI m (rhoS c pr) h S T Q K s m1 := ⟨k1, HRel_ag lim ag1 hr, SRel_ag lim ag1 sr, RuR_kp k1 ag1 (RuR_of fc rl), e50.trans mi.2⟩
      refine fr_rel (fun k r (p : Int32 × OV) => PX9_forged_L27 _ k p.1 (rv r) p.2) (fun r p => (∀ j, j < 32 → (bt p.1 j = true ↔ j < nn ∧ ∀ r', r' < r → ¬ hol (WR pr ζ h S T Q K) c r' j)) ∧ AG m p.2 ∧ TrI m (rhoS c pr) h S T Q K s p.2) (n + 1) ((((1 : Int32) <<< (nI nn &&& 31)) - 1), m1) ⟨fun j hj => ?_, ag1, r1⟩ ?_ ?_
      · rw [b_full nn n10 j hj, decide_eq_true_eq]
        exact ⟨fun y => ⟨y, fun r' h' => absurd h' (Nat.not_lt_zero r')⟩, fun y => y.1⟩
      · rintro k ⟨Y, m2⟩ ⟨hY, ag2, r2⟩
        show PX9_forged_L27 _ (k + 1) Y (rv (n + 1)) m2
        unfold PX9_forged_L27
        rw [show m2.1 34 = nI n from (r2.1.1.1 34 (by decide)).trans rl.2.2.1]
        refine br_t (Int32.le_refl _) ⟨?_, Sim_tw tw (Sim_keep q1 ag2 (Kp_hld r2.1 (r2.2.2.2.2.trans mi.2.symm)) sim0)⟩
        refine b_ext (fun j hj => ?_)
        rw [Bool.eq_iff_iff, hX j hj, hY j hj]
        exact ⟨fun y => ⟨y.1, fun r' h' => y.2 r' (by omega)⟩, fun y => ⟨y.1, fun r' h' => y.2 r' (by omega)⟩⟩
      · rintro k r ⟨Y, m2⟩ hr' ⟨hY, ag2, r2⟩ next
        have hY' : ∀ j, j < 32 → (bt Y j = true ↔ j < nn ∧ ∀ r', r' < r → ¬ hol (WR pr ζ h S T Q K) c r' j) := hY
        show PX9_forged_L27 _ (k + 1) Y (rv r) m2
        unfold PX9_forged_L27
        rw [show m2.1 34 = nI n from (r2.1.1.1 34 (by decide)).trans rl.2.2.1]
        refine br_f (rv_ge hn (by omega)) (mp_laysWriting w0 rl mi.2 tt (by omega) (hζ r (by omega)) r2 ag2 (fun m3 r3 ag3 w3 _ => ?_))
        have e9 : m3.2.1 1 ((9 : Int32)).toNatClampNeg = nI nn := (ag3.1 (1, 12) (by decide) 9 (by decide)).trans n9
        refine fr_rel (fun k2 i (Z : Int32) => PX9_forged_L42 (PX9_forged_L27 _ k) _ k2 Z (rv r) (nI i) m3) (fun i Z => ∀ j, j < 32 → (bt Z j = true ↔ bt Y j = true ∧ (j < i → ¬ hol (WR pr ζ h S T Q K) c r j))) nn Y (fun j hj => ⟨fun y => ⟨y, fun q => absurd q (Nat.not_lt_zero j)⟩, fun y => y.1⟩) ?_ ?_
        · intro k2 Z hZ
          unfold PX9_forged_L42
          rw [e9]
          refine br_t (Int32.le_refl _) ?_
          rintro _ rfl
          rw [rv_s]
          refine next (Z, m3) ⟨fun j hj => ?_, ag3, r3⟩
          show bt Z j = true ↔ _
          rw [hZ j hj, hY' j hj]
          constructor
          · rintro ⟨⟨a, b⟩, c'⟩
            refine ⟨a, fun r' h' => ?_⟩
            by_cases e : r' = r
            · rw [e]; exact c' a
            · exact b r' (by omega)
          · rintro ⟨a, b⟩
            exact ⟨⟨a, fun r' h' => b r' (by omega)⟩, fun _ => b r (by omega)⟩
        · intro k2 i Z hi hZ next2
          obtain ⟨a, b, _, q, hq, eq⟩ := nk i hi
          have e15 : m3.2.1 15 i = c.2.1 8 i := (ag3.1 (15, 10) (by decide) i (show i < 10 by omega)).trans a
          have e16 : m3.2.1 16 i = nI q := (ag3.1 (16, 10) (by decide) i (show i < 10 by omega)).trans (b.trans eq)
          have e : hol (WR pr ζ h S T Q K) c r i ↔ WR pr ζ h S T Q K r q = c.2.1 8 i := by
            unfold hol
            rw [eq, nI_31 (show q < 1000 by omega)]
          unfold PX9_forged_L42 PX9_forged_b83
          rw [e9, nI_31 (show i < 1000 by omega), e15, e16, nI_31 (show q < 1000 by omega), w3 q hq]
          refine br_f (fr_nle hi (by omega)) ⟨vp_in_q (by omega) (by omega), vp_in_q (by omega) (by omega), vp_in_q (by omega) (by omega), br_nc (fun g => ?_) (fun g => ?_)⟩
          · rintro _ rfl _ rfl
            rw [nI_1]
            refine next2 _ (fun j hj => ?_)
            rw [b_and, b_m1 j hj, Bool.and_true, hZ j hj]
            constructor
            · rintro ⟨x, y⟩
              refine ⟨x, fun l => ?_⟩
              by_cases ej : j = i
              · rw [ej]; exact fun u => g (e.mp u)
              · exact y (by omega)
            · rintro ⟨x, y⟩
              exact ⟨x, fun l => y (by omega)⟩
          · rintro _ rfl _ rfl
            rw [nI_1]
            refine next2 _ (fun j hj => ?_)
            rw [b_and, b_not _ hj, b_one i (by omega) hj, Bool.and_eq_true, hZ j hj]
            by_cases ej : j = i
            · rw [decide_eq_true ej]
              constructor
              · rintro ⟨_, y⟩
                cases y
              · rintro ⟨_, y⟩
                rw [ej] at y
                exact absurd (e.mpr g) (y (by omega))
            · rw [decide_eq_false ej]
              constructor
              · rintro ⟨⟨x, y⟩, _⟩
                exact ⟨x, fun l => y (by omega)⟩
              · rintro ⟨x, y⟩
                exact ⟨⟨x, fun l => y (by omega)⟩, rfl⟩
    · intro k i X hi hX next
      unfold PX8_forged_L23
      rw [n7]
      refine br_f (fr_nle hi (by omega)) ?_
      refine fr_rel (fun k2 r (g : Int32) => PX8_forged_L39 c h n (PX8_forged_L23 c h n _ k) _ k2 X (nI i) g (nI r) t1 w1 z1 pr1) (fun r g => (g = 0 ∧ ∀ r', r' < r → ¬ hol (WR pr ζ h S T Q K) c r' i) ∨ (g = 1 ∧ ∃ r', r' < r ∧ hol (WR pr ζ h S T Q K) c r' i)) (n + 1) 0 (Or.inl ⟨rfl, fun r' h' => absurd h' (Nat.not_lt_zero r')⟩) ?_ ?_
      · intro k2 g cs
        unfold PX8_forged_L39 PX8_forged_b87
        rw [e5]
        refine br_t (nI_lt (by omega) (by omega)) ?_
        rcases cs with ⟨eg, no⟩ | ⟨eg, r', hr', ys⟩
        · refine br_t eg (cp_bit (S := 10) (by omega) (Or.inr ⟨i, by omega, rfl⟩) ?_)
          rintro _ rfl _ rfl
          rw [nI_1]
          refine next _ (fun j hj => ?_)
          unfold bitO
          rw [if_neg (nI_n1 (by omega)), b_or, b_one i (by omega) hj, Bool.or_eq_true, hX j hj, decide_eq_true_eq]
          constructor
          · rintro (⟨x, y⟩ | x)
            · exact ⟨by omega, y⟩
            · rw [x]
              exact ⟨by omega, fun r' h' => no r' (by omega)⟩
          · rintro ⟨x, y⟩
            by_cases ej : j = i
            · exact Or.inr ej
            · exact Or.inl ⟨by omega, y⟩
        · refine br_f (by rw [eg]; decide) ?_
          rintro _ rfl _ rfl
          rw [nI_1]
          refine next _ (fun j hj => ?_)
          rw [or_0, hX j hj]
          constructor
          · rintro ⟨x, y⟩
            exact ⟨by omega, y⟩
          · rintro ⟨x, y⟩
            refine ⟨?_, y⟩
            by_cases ej : j = i
            · rw [ej] at y
              exact absurd ys (y r' (by omega))
            · omega
      · intro k2 r g hr' cs next2
        unfold PX8_forged_L39
        rw [e5]
        refine br_f (nI_nlt (by omega) (by omega)) ?_
        rcases cs with ⟨eg, no⟩ | ⟨eg, r', hr'', ys⟩
        · refine br_nt eg (cp_holds (wr := WR pr ζ h S T Q K) (nn := nn) hn (by omega) hi n10 l3 (nk i hi).2.2.2 hw ?_)
          by_cases a : hol (WR pr ζ h S T Q K) c r i
          · rw [zb_t a]
            refine br_f (by decide) ?_
            rintro _ rfl
            rw [nI_1]
            exact next2 1 (Or.inr ⟨rfl, r, by omega, a⟩)
          · rw [zb_f a]
            refine br_t rfl ?_
            rintro _ rfl
            rw [nI_1]
            refine next2 0 (Or.inl ⟨rfl, fun r' h' => ?_⟩)
            by_cases e : r' = r
            · rw [e]; exact a
            · exact no r' (by omega)
        · refine br_nf (by rw [eg]; decide) ?_
          rintro _ rfl
          rw [nI_1]
          exact next2 1 (Or.inr ⟨rfl, r', by omega, ys⟩)
  · unfold PX9_forged
    refine mp_isHill hv hr ?_
    rw [t0]
    exact br_nt rfl ⟨rfl, sim0⟩
