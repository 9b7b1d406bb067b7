theorem kn_ad1_q {q : Nat} : kn_q (kn_ad1 q) 0 = (fun _ => none) := by
  funext i
  unfold kn_q kn_ad1
  rw [if_neg (by omega)]
theorem kn_pick {w w' : List CH} (is : List Nat) (n : Nat) (hn : w.length = n) (hp : is.isPerm (List.range n) = true) (hs : is.map (fun i => w[i]?) = w'.map some) : w.Perm w' := by
  subst hn
  have h1 := (List.isPerm_iff.mp hp).map (fun i => w[i]?)
  rw [hs, kn_range] at h1
  have h2 := h1.filterMap id
  rw [kn_fmap, kn_fmap] at h2
  exact h2.symm
abbrev rmX8_init : Room := { frames := 4, cells := 195, slots := 2032, locals := 300 }
set_option maxRecDepth 100000 in
set_option maxHeartbeats 4000000 in
theorem ctX8_init {l : Launch} {D : va_G} {tc : Nat → ClassId} {Z : (Nat → Nat) × (Nat → Nat)} {h0 : Nat} : CTv l D tc Z yX8_init (Cond.code yX8_init cX8_init 1 none :: kn_all) rmX8_init 195 2032 [.ref h0] [(kRawX8, kn_ad0 h0, kn_v0)] (fun (u : (Nat → Nat) × (Nat → Nat) × (Nat → Nat) × (Nat → Nat) × (Nat → Nat) × (Nat → Nat) × (Nat → Nat) × (Nat → Nat) × (Nat → Nat) × (Nat → Nat) × (Nat → Nat) × (Nat → Nat → Nat)) => ([(kTin, u.1, kn_v0), (kHillReader, u.2.1, kn_v0), (kReader, u.2.2.1, v0X2), (kRuleReader, u.2.2.2.1, kn_v0), (kReader, u.2.2.2.2.1, v0X2), (kRule, u.2.2.2.2.2.1, v0X3), (kScene, u.2.2.2.2.2.2.1, v0X5), (kHill, u.2.2.2.2.2.2.2.1, v0X0), (kState, u.2.2.2.2.2.2.2.2.1, v0X6), (kWalk, u.2.2.2.2.2.2.2.2.2.1, v0X7), (kState, u.2.2.2.2.2.2.2.2.2.2.1, v0X6)] ++ kn_pool kState 20 u.2.2.2.2.2.2.2.2.2.2.2 (fun _ => v0X6))) (fun (u : (Nat → Nat) × (Nat → Nat) × (Nat → Nat) × (Nat → Nat) × (Nat → Nat) × (Nat → Nat) × (Nat → Nat) × (Nat → Nat) × (Nat → Nat) × (Nat → Nat) × (Nat → Nat) × (Nat → Nat → Nat)) => u.1 0 = h0 ∧ u.1 (2 + 1) = u.2.1 0 ∧ u.2.1 (0 + 1) = u.2.2.1 0 ∧ u.1 (3 + 1) = u.2.2.2.1 0 ∧ u.2.2.2.1 (0 + 1) = u.2.2.2.2.1 0 ∧ u.2.2.2.1 (1 + 1) = u.2.2.2.2.2.1 0 ∧ u.1 (6 + 1) = u.2.2.2.2.2.2.1 0 ∧ u.2.2.2.2.2.2.1 (0 + 1) = u.2.2.2.2.2.2.2.1 0 ∧ u.2.2.2.2.2.2.1 (3 + 1) = u.2.2.2.2.2.2.2.2.1 0 ∧ u.1 (8 + 1) = u.2.2.2.2.2.2.2.2.2.1 0 ∧ u.1 (9 + 1) = u.2.2.2.2.2.2.2.2.2.2.1 0 ∧ (∀ i, i < 20 → kn_q u.2.2.2.2.2.2.1 4 i = some (u.2.2.2.2.2.2.2.2.2.2.2 i 0)) ∧ (∀ i, kn_q u.1 7 i = none) ∧ (∀ i, i < 7 → kn_q u.1 10 i = some (u.1 (100 + i + 1)))) := by
  refine kn_ofv (cc := cX8_init) (nL := 1) (ret := none) (lv := [(0, .ref h0)]) (by decide) (Nat.le_of_ble_eq_true rfl) rfl (fun p e s m below meth c ls X I hl hin9 => ?_)
  obtain ⟨S0, hr, hlocks, hK, hZ, hA⟩ := id X
  obtain ⟨hx, hb, hml, hown, hts⟩ := id S0
  have hin : meth.name = "<init>" := hin9 rfl
  refine lv_aload_n hx hb (kn_dec tX8_init 0 rfl) rfl (lv_at hl 0 rfl) ?_
  refine W.objInit hx hb hown (hts _ q1_23) (hts _ q1_24) (hts _ q1_25) rfl (by rw [hml]; exact hl.1) rfl (kn_dec tX8_init 1 rfl) (Nat.le_of_ble_eq_true rfl) (Nat.le_of_ble_eq_true rfl) ?_
  refine W.eq (g2 := F0 m 4 ls []) rfl ?_
  refine lv_aload_n hx hb (kn_dec tX8_init 2 rfl) rfl (lv_at hl 0 rfl) ?_
  refine lv_sipush (v := (400)) hx hb (kn_dec tX8_init 3 rfl) (by decide) ?_
  refine kw_newI (N' := 400) hx hb (hts _ q1_55) hK hA I (by decide) (by decide) (Nat.le_of_ble_eq_true rfl) (Nat.le_of_ble_eq_true rfl) (Nat.le_of_ble_eq_true rfl) (kn_dec tX8_init 4 rfl) (fun q8 H I => ?_)
  have I : kn_I D tc _ s.heap [(kRawX8, (kn_ad0 h0), kn_v0), (kArr 0 400, (kn_ad1 q8), kn_v0)] _ _ := I
  refine kw_putF (ad := (kn_ad0 h0)) hx hb hts inX8 tyX8 tyX8_ok nmX8 hown hK I 0 rfl rfl 0 (by decide) rfl (hts _ q2_99) rfl hin rfl rfl rfl (kn_dec tX8_init 5 rfl) (fun H locs I => ?_)
  have I : kn_I D tc _ s.heap [(kRawX8, (kn_up (kn_ad0 h0) 0 (q8 + 1)), kn_v0), (kArr 0 400, (kn_ad1 q8), kn_v0)] _ _ := I
  refine lv_aload_n hx hb (kn_dec tX8_init 6 rfl) rfl (lv_at hl 0 rfl) ?_
  refine kw_new (ci := 1) (fl := [2]) S0 hK hA I inX1 tyX1 tyX1_ok q1_26 q1_27 q1_2 rfl dflX1 (Nat.le_of_ble_eq_true rfl) (Nat.le_of_ble_eq_true rfl) (kn_dec tX8_init 7 rfl) (fun q14 H I => ?_)
  refine lv_dup hx hb (kn_dec tX8_init 8 rfl) rfl ?_
  refine kw_initM S0 hK hZ hA I ctX1_init 0 rfl q1_2 q1_30 q1_29 rfl rfl (by decide +kernel) rfl ⟨(Nat.le_of_ble_eq_true rfl), (Nat.le_of_ble_eq_true rfl)⟩ hl.1 (Nat.le_of_ble_eq_true rfl) (kn_dec tX8_init 9 rfl) ⟨(Nat.le_of_ble_eq_true rfl), (Nat.le_of_ble_eq_true rfl)⟩ (fun u18 H locs hp18 I => ?_)
  obtain ⟨ad_g, ad_r⟩ := u18
  obtain ⟨hp18, e_g_0⟩ := hp18
  have hp18 : ad_g 0 = q14 := hp18
  have e_g_0 : ad_g (0 + 1) = ad_r 0 := e_g_0
  have I : kn_I D tc _ s.heap [(kRawX8, (kn_up (kn_ad0 h0) 0 (q8 + 1)), kn_v0), (kArr 0 400, (kn_ad1 q8), kn_v0), (kHillReader, ad_g, kn_v0), (kReader, ad_r, v0X2)] _ _ := I
  rw [← hp18]
  refine kw_putF (ad := (kn_up (kn_ad0 h0) 0 (q8 + 1))) hx hb hts inX8 tyX8 tyX8_ok nmX8 hown hK I 0 rfl rfl 2 (by decide) rfl (hts _ q2_101) rfl hin rfl rfl rfl (kn_dec tX8_init 10 rfl) (fun H locs I => ?_)
  have I : kn_I D tc _ s.heap [(kRawX8, (kn_up (kn_up (kn_ad0 h0) 0 (q8 + 1)) 2 (ad_g 0 + 1)), kn_v0), (kArr 0 400, (kn_ad1 q8), kn_v0), (kHillReader, ad_g, kn_v0), (kReader, ad_r, v0X2)] _ _ := I
  refine lv_aload_n hx hb (kn_dec tX8_init 11 rfl) rfl (lv_at hl 0 rfl) ?_
  refine kw_new (ci := 4) (fl := [2, 2, 0]) S0 hK hA I inX4 tyX4 tyX4_ok q1_60 q1_61 q1_4 rfl dflX4 (Nat.le_of_ble_eq_true rfl) (Nat.le_of_ble_eq_true rfl) (kn_dec tX8_init 12 rfl) (fun q25 H I => ?_)
  refine lv_dup hx hb (kn_dec tX8_init 13 rfl) rfl ?_
  refine kw_initM S0 hK hZ hA I ctX4_init 2 rfl q1_4 q1_64 q1_63 rfl rfl (by decide +kernel) rfl ⟨(Nat.le_of_ble_eq_true rfl), (Nat.le_of_ble_eq_true rfl)⟩ hl.1 (Nat.le_of_ble_eq_true rfl) (kn_dec tX8_init 14 rfl) ⟨(Nat.le_of_ble_eq_true rfl), (Nat.le_of_ble_eq_true rfl)⟩ (fun u29 H locs hp29 I => ?_)
  obtain ⟨ad_q, ad_y, ad_u⟩ := u29
  obtain ⟨hp29, e_q_0, e_q_1⟩ := hp29
  have hp29 : ad_q 0 = q25 := hp29
  have e_q_0 : ad_q (0 + 1) = ad_y 0 := e_q_0
  have e_q_1 : ad_q (1 + 1) = ad_u 0 := e_q_1
  have I : kn_I D tc _ s.heap [(kRawX8, (kn_up (kn_up (kn_ad0 h0) 0 (q8 + 1)) 2 (ad_g 0 + 1)), kn_v0), (kArr 0 400, (kn_ad1 q8), kn_v0), (kHillReader, ad_g, kn_v0), (kReader, ad_r, v0X2), (kRuleReader, ad_q, kn_v0), (kReader, ad_y, v0X2), (kRule, ad_u, v0X3)] _ _ := I
  rw [← hp29]
  refine kw_putF (ad := (kn_up (kn_up (kn_ad0 h0) 0 (q8 + 1)) 2 (ad_g 0 + 1))) hx hb hts inX8 tyX8 tyX8_ok nmX8 hown hK I 0 rfl rfl 3 (by decide) rfl (hts _ q2_102) rfl hin rfl rfl rfl (kn_dec tX8_init 15 rfl) (fun H locs I => ?_)
  have I : kn_I D tc _ s.heap [(kRawX8, (kn_up (kn_up (kn_up (kn_ad0 h0) 0 (q8 + 1)) 2 (ad_g 0 + 1)) 3 (ad_q 0 + 1)), kn_v0), (kArr 0 400, (kn_ad1 q8), kn_v0), (kHillReader, ad_g, kn_v0), (kReader, ad_r, v0X2), (kRuleReader, ad_q, kn_v0), (kReader, ad_y, v0X2), (kRule, ad_u, v0X3)] _ _ := I
  refine lv_aload_n hx hb (kn_dec tX8_init 16 rfl) rfl (lv_at hl 0 rfl) ?_
  refine lv_bipush (v := (6)) hx hb (kn_dec tX8_init 17 rfl) (by decide) ?_
  refine kw_newQ (N' := 6) hx hb hown (hts _ q1_104) (hZ.2.2.2.2.1 _ (List.mem_of_getElem? (i := 2) rfl)) hK hA I 2 rfl (by decide) (by decide) (Nat.le_of_ble_eq_true rfl) (Nat.le_of_ble_eq_true rfl) (Nat.le_of_ble_eq_true rfl) (kn_dec tX8_init 18 rfl) (fun q38 H I => ?_)
  have I : kn_I D tc _ s.heap [(kRawX8, (kn_up (kn_up (kn_up (kn_ad0 h0) 0 (q8 + 1)) 2 (ad_g 0 + 1)) 3 (ad_q 0 + 1)), kn_v0), (kArr 0 400, (kn_ad1 q8), kn_v0), (kHillReader, ad_g, kn_v0), (kReader, ad_r, v0X2), (kRuleReader, ad_q, kn_v0), (kReader, ad_y, v0X2), (kRule, ad_u, v0X3), (kArr 6 6, (kn_ad1 q38), kn_v0)] _ _ := I
  refine kw_putF (ad := (kn_up (kn_up (kn_up (kn_ad0 h0) 0 (q8 + 1)) 2 (ad_g 0 + 1)) 3 (ad_q 0 + 1))) hx hb hts inX8 tyX8 tyX8_ok nmX8 hown hK I 0 rfl rfl 4 (by decide) rfl (hts _ q2_103) rfl hin rfl rfl rfl (kn_dec tX8_init 19 rfl) (fun H locs I => ?_)
  have I : kn_I D tc _ s.heap [(kRawX8, (kn_up (kn_up (kn_up (kn_up (kn_ad0 h0) 0 (q8 + 1)) 2 (ad_g 0 + 1)) 3 (ad_q 0 + 1)) 4 (q38 + 1)), kn_v0), (kArr 0 400, (kn_ad1 q8), kn_v0), (kHillReader, ad_g, kn_v0), (kReader, ad_r, v0X2), (kRuleReader, ad_q, kn_v0), (kReader, ad_y, v0X2), (kRule, ad_u, v0X3), (kArr 6 6, (kn_ad1 q38), kn_v0)] _ _ := I
  refine lv_aload_n hx hb (kn_dec tX8_init 20 rfl) rfl (lv_at hl 0 rfl) ?_
  refine kw_new (ci := 5) (fl := [2, 0, 0, 2, 2, 0, 0, 0, 2, 2]) S0 hK hA I inX5 tyX5 tyX5_ok q1_106 q1_107 q1_6 rfl dflX5 (Nat.le_of_ble_eq_true rfl) (Nat.le_of_ble_eq_true rfl) (kn_dec tX8_init 21 rfl) (fun q45 H I => ?_)
  refine lv_dup hx hb (kn_dec tX8_init 22 rfl) rfl ?_
  refine kw_init S0 hK hZ hA I ctX5_init q1_108 q1_6 q1_110 q1_109 rfl rfl (by decide +kernel) rfl ⟨(Nat.le_of_ble_eq_true rfl), (Nat.le_of_ble_eq_true rfl)⟩ hl.1 (Nat.le_of_ble_eq_true rfl) (kn_dec tX8_init 23 rfl) ⟨(Nat.le_of_ble_eq_true rfl), (Nat.le_of_ble_eq_true rfl)⟩ (fun u49 H locs hp49 I => ?_)
  obtain ⟨ad_c, ad_h, ad_s, ad_pp⟩ := u49
  obtain ⟨hp49, e_c_0, e_c_3, p_c_4⟩ := hp49
  have hp49 : ad_c 0 = q45 := hp49
  have e_c_0 : ad_c (0 + 1) = ad_h 0 := e_c_0
  have e_c_3 : ad_c (3 + 1) = ad_s 0 := e_c_3
  have p_c_4 : ∀ i, i < 20 → kn_q ad_c 4 i = some (ad_pp i 0) := p_c_4
  have I := kn_conv I (congrArg (kn_flat tc) (List.append_assoc _ _ _).symm)
  have I : kn_I D tc _ s.heap ([(kRawX8, (kn_up (kn_up (kn_up (kn_up (kn_ad0 h0) 0 (q8 + 1)) 2 (ad_g 0 + 1)) 3 (ad_q 0 + 1)) 4 (q38 + 1)), kn_v0), (kArr 0 400, (kn_ad1 q8), kn_v0), (kHillReader, ad_g, kn_v0), (kReader, ad_r, v0X2), (kRuleReader, ad_q, kn_v0), (kReader, ad_y, v0X2), (kRule, ad_u, v0X3), (kArr 6 6, (kn_ad1 q38), kn_v0), (kScene, ad_c, v0X5), (kHill, ad_h, v0X0), (kState, ad_s, v0X6)] ++ kn_pool kState 20 ad_pp (fun _ => v0X6)) _ _ := I
  rw [← hp49]
  refine kw_putF (ad := (kn_up (kn_up (kn_up (kn_up (kn_ad0 h0) 0 (q8 + 1)) 2 (ad_g 0 + 1)) 3 (ad_q 0 + 1)) 4 (q38 + 1))) hx hb hts inX8 tyX8 tyX8_ok nmX8 hown hK I 0 rfl rfl 6 (by decide) rfl (hts _ q2_105) rfl hin rfl rfl rfl (kn_dec tX8_init 24 rfl) (fun H locs I => ?_)
  have I : kn_I D tc _ s.heap ([(kRawX8, (kn_up (kn_up (kn_up (kn_up (kn_up (kn_ad0 h0) 0 (q8 + 1)) 2 (ad_g 0 + 1)) 3 (ad_q 0 + 1)) 4 (q38 + 1)) 6 (ad_c 0 + 1)), kn_v0), (kArr 0 400, (kn_ad1 q8), kn_v0), (kHillReader, ad_g, kn_v0), (kReader, ad_r, v0X2), (kRuleReader, ad_q, kn_v0), (kReader, ad_y, v0X2), (kRule, ad_u, v0X3), (kArr 6 6, (kn_ad1 q38), kn_v0), (kScene, ad_c, v0X5), (kHill, ad_h, v0X0), (kState, ad_s, v0X6)] ++ kn_pool kState 20 ad_pp (fun _ => v0X6)) _ _ := I
  refine lv_aload_n hx hb (kn_dec tX8_init 25 rfl) rfl (lv_at hl 0 rfl) ?_
  refine lv_iconst (v := (4)) hx hb (kn_dec tX8_init 26 rfl) (by decide) ?_
  refine kw_newQ (N' := 4) hx hb hown (hts _ q1_106) (hZ.2.2.2.2.1 _ (List.mem_of_getElem? (i := 1) rfl)) hK hA I 1 rfl (by decide) (by decide) (Nat.le_of_ble_eq_true rfl) (Nat.le_of_ble_eq_true rfl) (Nat.le_of_ble_eq_true rfl) (kn_dec tX8_init 27 rfl) (fun q57 H I => ?_)
  have I := I.perm (kn_rot _ _ _)
  have I : kn_I D tc _ s.heap ([(kRawX8, (kn_up (kn_up (kn_up (kn_up (kn_up (kn_ad0 h0) 0 (q8 + 1)) 2 (ad_g 0 + 1)) 3 (ad_q 0 + 1)) 4 (q38 + 1)) 6 (ad_c 0 + 1)), kn_v0), (kArr 0 400, (kn_ad1 q8), kn_v0), (kHillReader, ad_g, kn_v0), (kReader, ad_r, v0X2), (kRuleReader, ad_q, kn_v0), (kReader, ad_y, v0X2), (kRule, ad_u, v0X3), (kArr 6 6, (kn_ad1 q38), kn_v0), (kScene, ad_c, v0X5), (kHill, ad_h, v0X0), (kState, ad_s, v0X6), (kArr 5 4, (kn_ad1 q57), kn_v0)] ++ kn_pool kState 20 ad_pp (fun _ => v0X6)) _ _ := I
  refine kw_putF (ad := (kn_up (kn_up (kn_up (kn_up (kn_up (kn_ad0 h0) 0 (q8 + 1)) 2 (ad_g 0 + 1)) 3 (ad_q 0 + 1)) 4 (q38 + 1)) 6 (ad_c 0 + 1))) hx hb hts inX8 tyX8 tyX8_ok nmX8 hown hK I 0 rfl rfl 7 (by decide) rfl (hts _ q2_106) rfl hin rfl rfl rfl (kn_dec tX8_init 28 rfl) (fun H locs I => ?_)
  have I : kn_I D tc _ s.heap ([(kRawX8, (kn_up (kn_up (kn_up (kn_up (kn_up (kn_up (kn_ad0 h0) 0 (q8 + 1)) 2 (ad_g 0 + 1)) 3 (ad_q 0 + 1)) 4 (q38 + 1)) 6 (ad_c 0 + 1)) 7 (q57 + 1)), kn_v0), (kArr 0 400, (kn_ad1 q8), kn_v0), (kHillReader, ad_g, kn_v0), (kReader, ad_r, v0X2), (kRuleReader, ad_q, kn_v0), (kReader, ad_y, v0X2), (kRule, ad_u, v0X3), (kArr 6 6, (kn_ad1 q38), kn_v0), (kScene, ad_c, v0X5), (kHill, ad_h, v0X0), (kState, ad_s, v0X6), (kArr 5 4, (kn_ad1 q57), kn_v0)] ++ kn_pool kState 20 ad_pp (fun _ => v0X6)) _ _ := I
  refine lv_aload_n hx hb (kn_dec tX8_init 29 rfl) rfl (lv_at hl 0 rfl) ?_
  refine kw_new (ci := 7) (fl := [2, 2, 2, 0, 0, 0]) S0 hK hA I inX7 tyX7 tyX7_ok q2_67 q2_68 q1_9 rfl dflX7 (Nat.le_of_ble_eq_true rfl) (Nat.le_of_ble_eq_true rfl) (kn_dec tX8_init 30 rfl) (fun q64 H I => ?_)
  refine lv_dup hx hb (kn_dec tX8_init 31 rfl) rfl ?_
  refine kw_initM S0 hK hZ hA I ctX7_init 7 rfl q1_9 q2_71 q2_70 rfl rfl (by decide +kernel) rfl ⟨(Nat.le_of_ble_eq_true rfl), (Nat.le_of_ble_eq_true rfl)⟩ hl.1 (Nat.le_of_ble_eq_true rfl) (kn_dec tX8_init 32 rfl) ⟨(Nat.le_of_ble_eq_true rfl), (Nat.le_of_ble_eq_true rfl)⟩ (fun u68 H locs hp68 I => ?_)
  obtain ⟨ad_w, ea68⟩ : ∃ z, z = u68 := ⟨_, rfl⟩
  subst ea68
  have hp68 : ad_w 0 = q64 := hp68
  have I := I.perm (kn_rot _ _ _)
  have I : kn_I D tc _ s.heap ([(kRawX8, (kn_up (kn_up (kn_up (kn_up (kn_up (kn_up (kn_ad0 h0) 0 (q8 + 1)) 2 (ad_g 0 + 1)) 3 (ad_q 0 + 1)) 4 (q38 + 1)) 6 (ad_c 0 + 1)) 7 (q57 + 1)), kn_v0), (kArr 0 400, (kn_ad1 q8), kn_v0), (kHillReader, ad_g, kn_v0), (kReader, ad_r, v0X2), (kRuleReader, ad_q, kn_v0), (kReader, ad_y, v0X2), (kRule, ad_u, v0X3), (kArr 6 6, (kn_ad1 q38), kn_v0), (kScene, ad_c, v0X5), (kHill, ad_h, v0X0), (kState, ad_s, v0X6), (kArr 5 4, (kn_ad1 q57), kn_v0), (kWalk, ad_w, v0X7)] ++ kn_pool kState 20 ad_pp (fun _ => v0X6)) _ _ := I
  rw [← hp68]
  refine kw_putF (ad := (kn_up (kn_up (kn_up (kn_up (kn_up (kn_up (kn_ad0 h0) 0 (q8 + 1)) 2 (ad_g 0 + 1)) 3 (ad_q 0 + 1)) 4 (q38 + 1)) 6 (ad_c 0 + 1)) 7 (q57 + 1))) hx hb hts inX8 tyX8 tyX8_ok nmX8 hown hK I 0 rfl rfl 8 (by decide) rfl (hts _ q2_107) rfl hin rfl rfl rfl (kn_dec tX8_init 33 rfl) (fun H locs I => ?_)
  have I : kn_I D tc _ s.heap ([(kRawX8, (kn_up (kn_up (kn_up (kn_up (kn_up (kn_up (kn_up (kn_ad0 h0) 0 (q8 + 1)) 2 (ad_g 0 + 1)) 3 (ad_q 0 + 1)) 4 (q38 + 1)) 6 (ad_c 0 + 1)) 7 (q57 + 1)) 8 (ad_w 0 + 1)), kn_v0), (kArr 0 400, (kn_ad1 q8), kn_v0), (kHillReader, ad_g, kn_v0), (kReader, ad_r, v0X2), (kRuleReader, ad_q, kn_v0), (kReader, ad_y, v0X2), (kRule, ad_u, v0X3), (kArr 6 6, (kn_ad1 q38), kn_v0), (kScene, ad_c, v0X5), (kHill, ad_h, v0X0), (kState, ad_s, v0X6), (kArr 5 4, (kn_ad1 q57), kn_v0), (kWalk, ad_w, v0X7)] ++ kn_pool kState 20 ad_pp (fun _ => v0X6)) _ _ := I
  refine lv_aload_n hx hb (kn_dec tX8_init 34 rfl) rfl (lv_at hl 0 rfl) ?_
  refine kw_new (ci := 6) (fl := [0, 0, 0, 2, 2, 2, 2, 2, 2]) S0 hK hA I inX6 tyX6 tyX6_ok q2_95 q1_214 q1_8 rfl dflX6 (Nat.le_of_ble_eq_true rfl) (Nat.le_of_ble_eq_true rfl) (kn_dec tX8_init 35 rfl) (fun q75 H I => ?_)
  refine lv_dup hx hb (kn_dec tX8_init 36 rfl) rfl ?_
  refine kw_initM S0 hK hZ hA I ctX6_init 8 rfl q1_8 q1_217 q1_216 rfl rfl (by decide +kernel) rfl ⟨(Nat.le_of_ble_eq_true rfl), (Nat.le_of_ble_eq_true rfl)⟩ hl.1 (Nat.le_of_ble_eq_true rfl) (kn_dec tX8_init 37 rfl) ⟨(Nat.le_of_ble_eq_true rfl), (Nat.le_of_ble_eq_true rfl)⟩ (fun u79 H locs hp79 I => ?_)
  obtain ⟨ad_z, ea79⟩ : ∃ z, z = u79 := ⟨_, rfl⟩
  subst ea79
  have hp79 : ad_z 0 = q75 := hp79
  have I := I.perm (kn_rot _ _ _)
  have I : kn_I D tc _ s.heap ([(kRawX8, (kn_up (kn_up (kn_up (kn_up (kn_up (kn_up (kn_up (kn_ad0 h0) 0 (q8 + 1)) 2 (ad_g 0 + 1)) 3 (ad_q 0 + 1)) 4 (q38 + 1)) 6 (ad_c 0 + 1)) 7 (q57 + 1)) 8 (ad_w 0 + 1)), kn_v0), (kArr 0 400, (kn_ad1 q8), kn_v0), (kHillReader, ad_g, kn_v0), (kReader, ad_r, v0X2), (kRuleReader, ad_q, kn_v0), (kReader, ad_y, v0X2), (kRule, ad_u, v0X3), (kArr 6 6, (kn_ad1 q38), kn_v0), (kScene, ad_c, v0X5), (kHill, ad_h, v0X0), (kState, ad_s, v0X6), (kArr 5 4, (kn_ad1 q57), kn_v0), (kWalk, ad_w, v0X7), (kState, ad_z, v0X6)] ++ kn_pool kState 20 ad_pp (fun _ => v0X6)) _ _ := I
  rw [← hp79]
  refine kw_putF (ad := (kn_up (kn_up (kn_up (kn_up (kn_up (kn_up (kn_up (kn_ad0 h0) 0 (q8 + 1)) 2 (ad_g 0 + 1)) 3 (ad_q 0 + 1)) 4 (q38 + 1)) 6 (ad_c 0 + 1)) 7 (q57 + 1)) 8 (ad_w 0 + 1))) hx hb hts inX8 tyX8 tyX8_ok nmX8 hown hK I 0 rfl rfl 9 (by decide) rfl (hts _ q2_108) rfl hin rfl rfl rfl (kn_dec tX8_init 38 rfl) (fun H locs I => ?_)
  have I : kn_I D tc _ s.heap ([(kRawX8, (kn_up (kn_up (kn_up (kn_up (kn_up (kn_up (kn_up (kn_up (kn_ad0 h0) 0 (q8 + 1)) 2 (ad_g 0 + 1)) 3 (ad_q 0 + 1)) 4 (q38 + 1)) 6 (ad_c 0 + 1)) 7 (q57 + 1)) 8 (ad_w 0 + 1)) 9 (ad_z 0 + 1)), kn_v0), (kArr 0 400, (kn_ad1 q8), kn_v0), (kHillReader, ad_g, kn_v0), (kReader, ad_r, v0X2), (kRuleReader, ad_q, kn_v0), (kReader, ad_y, v0X2), (kRule, ad_u, v0X3), (kArr 6 6, (kn_ad1 q38), kn_v0), (kScene, ad_c, v0X5), (kHill, ad_h, v0X0), (kState, ad_s, v0X6), (kArr 5 4, (kn_ad1 q57), kn_v0), (kWalk, ad_w, v0X7), (kState, ad_z, v0X6)] ++ kn_pool kState 20 ad_pp (fun _ => v0X6)) _ _ := I
  refine lv_aload_n hx hb (kn_dec tX8_init 39 rfl) rfl (lv_at hl 0 rfl) ?_
  refine lv_bipush (v := (7)) hx hb (kn_dec tX8_init 40 rfl) (by decide) ?_
  refine lv_iconst (v := (4)) hx hb (kn_dec tX8_init 41 rfl) (by decide) ?_
  refine kw_mna hx hb hown (hts _ q2_97) hZ.2.2.2.2.2 (hts _ q1_55) hK hA I (Nat.le_of_ble_eq_true rfl) (Nat.le_of_ble_eq_true rfl) (kn_dec tX8_init 42 rfl) (fun q89 r H I => ?_)
  have I := I.perm (kn_rot _ _ _)
  have I : kn_I D tc _ s.heap ([(kRawX8, (kn_up (kn_up (kn_up (kn_up (kn_up (kn_up (kn_up (kn_up (kn_ad0 h0) 0 (q8 + 1)) 2 (ad_g 0 + 1)) 3 (ad_q 0 + 1)) 4 (q38 + 1)) 6 (ad_c 0 + 1)) 7 (q57 + 1)) 8 (ad_w 0 + 1)) 9 (ad_z 0 + 1)), kn_v0), (kArr 0 400, (kn_ad1 q8), kn_v0), (kHillReader, ad_g, kn_v0), (kReader, ad_r, v0X2), (kRuleReader, ad_q, kn_v0), (kReader, ad_y, v0X2), (kRule, ad_u, v0X3), (kArr 6 6, (kn_ad1 q38), kn_v0), (kScene, ad_c, v0X5), (kHill, ad_h, v0X0), (kState, ad_s, v0X6), (kArr 5 4, (kn_ad1 q57), kn_v0), (kWalk, ad_w, v0X7), (kState, ad_z, v0X6), (kArr 7 7, (kn_adG q89 r), kn_v0), (kArr 0 4, (kn_ad1 (r 0)), kn_v0), (kArr 0 4, (kn_ad1 (r 1)), kn_v0), (kArr 0 4, (kn_ad1 (r 2)), kn_v0), (kArr 0 4, (kn_ad1 (r 3)), kn_v0), (kArr 0 4, (kn_ad1 (r 4)), kn_v0), (kArr 0 4, (kn_ad1 (r 5)), kn_v0), (kArr 0 4, (kn_ad1 (r 6)), kn_v0)] ++ kn_pool kState 20 ad_pp (fun _ => v0X6)) _ _ := I
  refine kw_putF (ad := (kn_up (kn_up (kn_up (kn_up (kn_up (kn_up (kn_up (kn_up (kn_ad0 h0) 0 (q8 + 1)) 2 (ad_g 0 + 1)) 3 (ad_q 0 + 1)) 4 (q38 + 1)) 6 (ad_c 0 + 1)) 7 (q57 + 1)) 8 (ad_w 0 + 1)) 9 (ad_z 0 + 1))) hx hb hts inX8 tyX8 tyX8_ok nmX8 hown hK I 0 rfl rfl 10 (by decide) rfl (hts _ q2_109) rfl hin rfl rfl rfl (kn_dec tX8_init 43 rfl) (fun H locs I => ?_)
  have I : kn_I D tc _ s.heap ([(kRawX8, (kn_up (kn_up (kn_up (kn_up (kn_up (kn_up (kn_up (kn_up (kn_up (kn_ad0 h0) 0 (q8 + 1)) 2 (ad_g 0 + 1)) 3 (ad_q 0 + 1)) 4 (q38 + 1)) 6 (ad_c 0 + 1)) 7 (q57 + 1)) 8 (ad_w 0 + 1)) 9 (ad_z 0 + 1)) 10 (q89 + 1)), kn_v0), (kArr 0 400, (kn_ad1 q8), kn_v0), (kHillReader, ad_g, kn_v0), (kReader, ad_r, v0X2), (kRuleReader, ad_q, kn_v0), (kReader, ad_y, v0X2), (kRule, ad_u, v0X3), (kArr 6 6, (kn_ad1 q38), kn_v0), (kScene, ad_c, v0X5), (kHill, ad_h, v0X0), (kState, ad_s, v0X6), (kArr 5 4, (kn_ad1 q57), kn_v0), (kWalk, ad_w, v0X7), (kState, ad_z, v0X6), (kArr 7 7, (kn_adG q89 r), kn_v0), (kArr 0 4, (kn_ad1 (r 0)), kn_v0), (kArr 0 4, (kn_ad1 (r 1)), kn_v0), (kArr 0 4, (kn_ad1 (r 2)), kn_v0), (kArr 0 4, (kn_ad1 (r 3)), kn_v0), (kArr 0 4, (kn_ad1 (r 4)), kn_v0), (kArr 0 4, (kn_ad1 (r 5)), kn_v0), (kArr 0 4, (kn_ad1 (r 6)), kn_v0)] ++ kn_pool kState 20 ad_pp (fun _ => v0X6)) _ _ := I
  refine lv_aload_n hx hb (kn_dec tX8_init 44 rfl) rfl (lv_at hl 0 rfl) ?_
  refine lv_bipush (v := (10)) hx hb (kn_dec tX8_init 45 rfl) (by decide) ?_
  refine kw_newI (N' := 10) hx hb (hts _ q1_55) hK hA I (by decide) (by decide) (Nat.le_of_ble_eq_true rfl) (Nat.le_of_ble_eq_true rfl) (Nat.le_of_ble_eq_true rfl) (kn_dec tX8_init 46 rfl) (fun q99 H I => ?_)
  have I := I.perm (kn_rot _ _ _)
  have I : kn_I D tc _ s.heap ([(kRawX8, (kn_up (kn_up (kn_up (kn_up (kn_up (kn_up (kn_up (kn_up (kn_up (kn_ad0 h0) 0 (q8 + 1)) 2 (ad_g 0 + 1)) 3 (ad_q 0 + 1)) 4 (q38 + 1)) 6 (ad_c 0 + 1)) 7 (q57 + 1)) 8 (ad_w 0 + 1)) 9 (ad_z 0 + 1)) 10 (q89 + 1)), kn_v0), (kArr 0 400, (kn_ad1 q8), kn_v0), (kHillReader, ad_g, kn_v0), (kReader, ad_r, v0X2), (kRuleReader, ad_q, kn_v0), (kReader, ad_y, v0X2), (kRule, ad_u, v0X3), (kArr 6 6, (kn_ad1 q38), kn_v0), (kScene, ad_c, v0X5), (kHill, ad_h, v0X0), (kState, ad_s, v0X6), (kArr 5 4, (kn_ad1 q57), kn_v0), (kWalk, ad_w, v0X7), (kState, ad_z, v0X6), (kArr 7 7, (kn_adG q89 r), kn_v0), (kArr 0 4, (kn_ad1 (r 0)), kn_v0), (kArr 0 4, (kn_ad1 (r 1)), kn_v0), (kArr 0 4, (kn_ad1 (r 2)), kn_v0), (kArr 0 4, (kn_ad1 (r 3)), kn_v0), (kArr 0 4, (kn_ad1 (r 4)), kn_v0), (kArr 0 4, (kn_ad1 (r 5)), kn_v0), (kArr 0 4, (kn_ad1 (r 6)), kn_v0), (kArr 0 10, (kn_ad1 q99), kn_v0)] ++ kn_pool kState 20 ad_pp (fun _ => v0X6)) _ _ := I
  refine kw_putF (ad := (kn_up (kn_up (kn_up (kn_up (kn_up (kn_up (kn_up (kn_up (kn_up (kn_ad0 h0) 0 (q8 + 1)) 2 (ad_g 0 + 1)) 3 (ad_q 0 + 1)) 4 (q38 + 1)) 6 (ad_c 0 + 1)) 7 (q57 + 1)) 8 (ad_w 0 + 1)) 9 (ad_z 0 + 1)) 10 (q89 + 1))) hx hb hts inX8 tyX8 tyX8_ok nmX8 hown hK I 0 rfl rfl 11 (by decide) rfl (hts _ q2_110) rfl hin rfl rfl rfl (kn_dec tX8_init 47 rfl) (fun H locs I => ?_)
  have I : kn_I D tc _ s.heap ([(kRawX8, (kn_up (kn_up (kn_up (kn_up (kn_up (kn_up (kn_up (kn_up (kn_up (kn_up (kn_ad0 h0) 0 (q8 + 1)) 2 (ad_g 0 + 1)) 3 (ad_q 0 + 1)) 4 (q38 + 1)) 6 (ad_c 0 + 1)) 7 (q57 + 1)) 8 (ad_w 0 + 1)) 9 (ad_z 0 + 1)) 10 (q89 + 1)) 11 (q99 + 1)), kn_v0), (kArr 0 400, (kn_ad1 q8), kn_v0), (kHillReader, ad_g, kn_v0), (kReader, ad_r, v0X2), (kRuleReader, ad_q, kn_v0), (kReader, ad_y, v0X2), (kRule, ad_u, v0X3), (kArr 6 6, (kn_ad1 q38), kn_v0), (kScene, ad_c, v0X5), (kHill, ad_h, v0X0), (kState, ad_s, v0X6), (kArr 5 4, (kn_ad1 q57), kn_v0), (kWalk, ad_w, v0X7), (kState, ad_z, v0X6), (kArr 7 7, (kn_adG q89 r), kn_v0), (kArr 0 4, (kn_ad1 (r 0)), kn_v0), (kArr 0 4, (kn_ad1 (r 1)), kn_v0), (kArr 0 4, (kn_ad1 (r 2)), kn_v0), (kArr 0 4, (kn_ad1 (r 3)), kn_v0), (kArr 0 4, (kn_ad1 (r 4)), kn_v0), (kArr 0 4, (kn_ad1 (r 5)), kn_v0), (kArr 0 4, (kn_ad1 (r 6)), kn_v0), (kArr 0 10, (kn_ad1 q99), kn_v0)] ++ kn_pool kState 20 ad_pp (fun _ => v0X6)) _ _ := I
  obtain ⟨ad_t, et⟩ : ∃ z : Nat → Nat, z = (fun j => if j = 0 then h0 else if j = 1 then q8 else if j = 3 then ad_g 0 else if j = 4 then ad_q 0 else if j = 5 then q38 else if j = 7 then ad_c 0 else if j = 8 then q57 else if j = 9 then ad_w 0 else if j = 10 then ad_z 0 else if j = 11 then q89 else if j = 12 then q99 else if j < 101 then 0 else if j < 108 then r (j - 101) else if j < 1000 then 0 else if (j - 1000) % 200 = 10 ∧ (j - 1000) / 200 < 7 then r ((j - 1000) / 200) + 1 else 0) := ⟨_, rfl⟩
  have I : kn_I D tc _ s.heap ([(kRawX8, (kn_up (kn_up (kn_up (kn_up (kn_up (kn_up (kn_up (kn_up (kn_up (kn_up (kn_ad0 h0) 0 (q8 + 1)) 2 (ad_g 0 + 1)) 3 (ad_q 0 + 1)) 4 (q38 + 1)) 6 (ad_c 0 + 1)) 7 (q57 + 1)) 8 (ad_w 0 + 1)) 9 (ad_z 0 + 1)) 10 (q89 + 1)) 11 (q99 + 1)), kn_v0), (kArr 0 400, (kn_ad1 q8), kn_v0), (kArr 6 6, (kn_ad1 q38), kn_v0), (kArr 5 4, (kn_ad1 q57), kn_v0), (kArr 7 7, (kn_adG q89 r), kn_v0), (kArr 0 10, (kn_ad1 q99), kn_v0), (kArr 0 4, (kn_ad1 (r 0)), kn_v0), (kArr 0 4, (kn_ad1 (r 1)), kn_v0), (kArr 0 4, (kn_ad1 (r 2)), kn_v0), (kArr 0 4, (kn_ad1 (r 3)), kn_v0), (kArr 0 4, (kn_ad1 (r 4)), kn_v0), (kArr 0 4, (kn_ad1 (r 5)), kn_v0), (kArr 0 4, (kn_ad1 (r 6)), kn_v0), (kHillReader, ad_g, kn_v0), (kReader, ad_r, v0X2), (kRuleReader, ad_q, kn_v0), (kReader, ad_y, v0X2), (kRule, ad_u, v0X3), (kScene, ad_c, v0X5), (kHill, ad_h, v0X0), (kState, ad_s, v0X6), (kWalk, ad_w, v0X7), (kState, ad_z, v0X6)] ++ kn_pool kState 20 ad_pp (fun _ => v0X6)) _ _ := I.perm ((kn_pick [0, 1, 7, 11, 14, 22, 15, 16, 17, 18, 19, 20, 21, 2, 3, 4, 5, 6, 8, 9, 10, 12, 13] 23 rfl (by decide +kernel) rfl).append_right _)
  have eq4 : kn_q ad_t 4 = fun _ => none := by
    funext i
    rw [et]
    unfold kn_q
    have e : ((fun j => if j = 0 then h0 else if j = 1 then q8 else if j = 3 then ad_g 0 else if j = 4 then ad_q 0 else if j = 5 then q38 else if j = 7 then ad_c 0 else if j = 8 then q57 else if j = 9 then ad_w 0 else if j = 10 then ad_z 0 else if j = 11 then q89 else if j = 12 then q99 else if j < 101 then 0 else if j < 108 then r (j - 101) else if j < 1000 then 0 else if (j - 1000) % 200 = 10 ∧ (j - 1000) / 200 < 7 then r ((j - 1000) / 200) + 1 else 0) : Nat → Nat) (1000 + 200 * i + 4) = 0 := by
      dsimp only
      rw [if_neg (by omega), if_neg (by omega), if_neg (by omega), if_neg (by omega), if_neg (by omega), if_neg (by omega), if_neg (by omega), if_neg (by omega), if_neg (by omega), if_neg (by omega), if_neg (by omega), if_neg (by omega), if_neg (by omega), if_neg (by omega), if_neg (by omega)]
    rw [e]
  have eq7 : kn_q ad_t 7 = fun _ => none := by
    funext i
    rw [et]
    unfold kn_q
    have e : ((fun j => if j = 0 then h0 else if j = 1 then q8 else if j = 3 then ad_g 0 else if j = 4 then ad_q 0 else if j = 5 then q38 else if j = 7 then ad_c 0 else if j = 8 then q57 else if j = 9 then ad_w 0 else if j = 10 then ad_z 0 else if j = 11 then q89 else if j = 12 then q99 else if j < 101 then 0 else if j < 108 then r (j - 101) else if j < 1000 then 0 else if (j - 1000) % 200 = 10 ∧ (j - 1000) / 200 < 7 then r ((j - 1000) / 200) + 1 else 0) : Nat → Nat) (1000 + 200 * i + 7) = 0 := by
      dsimp only
      rw [if_neg (by omega), if_neg (by omega), if_neg (by omega), if_neg (by omega), if_neg (by omega), if_neg (by omega), if_neg (by omega), if_neg (by omega), if_neg (by omega), if_neg (by omega), if_neg (by omega), if_neg (by omega), if_neg (by omega), if_neg (by omega), if_neg (by omega)]
    rw [e]
  have eq10 : kn_q ad_t 10 = fun i => if i < 7 then some (r i) else none := by
    funext i
    rw [et]
    unfold kn_q
    have e : ((fun j => if j = 0 then h0 else if j = 1 then q8 else if j = 3 then ad_g 0 else if j = 4 then ad_q 0 else if j = 5 then q38 else if j = 7 then ad_c 0 else if j = 8 then q57 else if j = 9 then ad_w 0 else if j = 10 then ad_z 0 else if j = 11 then q89 else if j = 12 then q99 else if j < 101 then 0 else if j < 108 then r (j - 101) else if j < 1000 then 0 else if (j - 1000) % 200 = 10 ∧ (j - 1000) / 200 < 7 then r ((j - 1000) / 200) + 1 else 0) : Nat → Nat) (1000 + 200 * i + 10) = if i < 7 then r i + 1 else 0 := by
      dsimp only
      rw [if_neg (by omega), if_neg (by omega), if_neg (by omega), if_neg (by omega), if_neg (by omega), if_neg (by omega), if_neg (by omega), if_neg (by omega), if_neg (by omega), if_neg (by omega), if_neg (by omega), if_neg (by omega), if_neg (by omega), if_neg (by omega)]
      have e1 : (1000 + 200 * i + 10 - 1000) / 200 = i := by omega
      have e2 : (1000 + 200 * i + 10 - 1000) % 200 = 10 := by omega
      rw [e1, e2]
      by_cases h : i < 7
      · rw [if_pos ⟨rfl, h⟩, if_pos h]
      · rw [if_neg (fun c => h c.2), if_neg h]
    rw [e]
    by_cases h : i < 7
    · rw [if_pos h, if_pos h]
    · rw [if_neg h, if_neg h]
  have er : ∀ i, i < 7 → ad_t (100 + i + 1) = r i := by
    intro i hi
    rw [et]
    dsimp only
    rw [if_neg (by omega), if_neg (by omega), if_neg (by omega), if_neg (by omega), if_neg (by omega), if_neg (by omega), if_neg (by omega), if_neg (by omega), if_neg (by omega), if_neg (by omega), if_neg (by omega), if_neg (by omega), if_pos (by omega)]
    congr 1
    omega
  have a4 : kn_ar tc ad_t kn_v0 (4, 6, 6) = kn_ar tc (kn_ad1 q38) kn_v0 (0, 6, 6) := by
    unfold kn_ar kn_ac
    rw [eq4, kn_ad1_q, et]
    rfl
  have a7 : kn_ar tc ad_t kn_v0 (7, 5, 4) = kn_ar tc (kn_ad1 q57) kn_v0 (0, 5, 4) := by
    unfold kn_ar kn_ac
    rw [eq7, kn_ad1_q, et]
    rfl
  have a10 : kn_ar tc ad_t kn_v0 (10, 7, 7) = kn_ar tc (kn_adG q89 r) kn_v0 (0, 7, 7) := by
    unfold kn_ar kn_ac
    rw [eq10, ← kn_adG_q (q := q89), et]
    rfl
  have I := kn_conv (w' := ([(kTin, ad_t, kn_v0), (kHillReader, ad_g, kn_v0), (kReader, ad_r, v0X2), (kRuleReader, ad_q, kn_v0), (kReader, ad_y, v0X2), (kRule, ad_u, v0X3), (kScene, ad_c, v0X5), (kHill, ad_h, v0X0), (kState, ad_s, v0X6), (kWalk, ad_w, v0X7), (kState, ad_z, v0X6)] ++ kn_pool kState 20 ad_pp (fun _ => v0X6))) I (by
    rw [kn_flat_app, kn_flat_app]
    congr 1
    show _ = [kn_oc ad_t kn_v0 (8, [1, 0, 1, 1, 1, 0, 1, 1, 1, 1, 1, 1]), kn_ar tc ad_t kn_v0 (0, 0, 400), kn_ar tc ad_t kn_v0 (4, 6, 6), kn_ar tc ad_t kn_v0 (7, 5, 4), kn_ar tc ad_t kn_v0 (10, 7, 7), kn_ar tc ad_t kn_v0 (11, 0, 10), kn_ar tc ad_t kn_v0 (100, 0, 4), kn_ar tc ad_t kn_v0 (101, 0, 4), kn_ar tc ad_t kn_v0 (102, 0, 4), kn_ar tc ad_t kn_v0 (103, 0, 4), kn_ar tc ad_t kn_v0 (104, 0, 4), kn_ar tc ad_t kn_v0 (105, 0, 4), kn_ar tc ad_t kn_v0 (106, 0, 4)] ++ kn_flat tc [(kHillReader, ad_g, kn_v0), (kReader, ad_r, v0X2), (kRuleReader, ad_q, kn_v0), (kReader, ad_y, v0X2), (kRule, ad_u, v0X3), (kScene, ad_c, v0X5), (kHill, ad_h, v0X0), (kState, ad_s, v0X6), (kWalk, ad_w, v0X7), (kState, ad_z, v0X6)]
    rw [a4, a7, a10, et]
    rfl)
  exact kw_vret hx hb hr hlocks I (ad_t, ad_g, ad_r, ad_q, ad_y, ad_u, ad_c, ad_h, ad_s, ad_w, ad_z, ad_pp) rfl ⟨by rw [et]; rfl, (by rw [et]; rfl), e_g_0, (by rw [et]; rfl), e_q_0, e_q_1, (by rw [et]; rfl), e_c_0, e_c_3, (by rw [et]; rfl), (by rw [et]; rfl), p_c_4, fun i => congrFun eq7 i, fun i hi => by (show kn_q ad_t 10 i = some (ad_t (100 + i + 1))); rw [eq10, er i hi]; exact if_pos hi⟩ (kn_dec tX8_init 48 rfl)
