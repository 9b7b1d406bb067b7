def kRawX1 : KD := (some (1, [2]), [])
def kRawX4 : KD := (some (4, [2, 2, 0]), [])
def kRawX5 : KD := (some (5, [2, 0, 0, 2, 2, 0, 0, 0, 2, 2]), [])
def kRawX8 : KD := (some (8, [2, 0, 2, 2, 2, 0, 2, 2, 2, 2, 2, 2]), [])

theorem dflX0 : ∀ j, j < 18 → defaultValue (tyX0 j) = vp_V (kn_fs (kn_ad0 0) kn_v0 0 [0, 0, 0, 0, 0, 2, 2, 2, 0, 0, 2, 0, 2, 2, 2, 2, 0, 2]) j := lt_s (lt_s (lt_s (lt_s (lt_s (lt_s (lt_s (lt_s (lt_s (lt_s (lt_s (lt_s (lt_s (lt_s (lt_s (lt_s (lt_s (lt_s lt_0 rfl) rfl) rfl) rfl) rfl) rfl) rfl) rfl) rfl) rfl) rfl) rfl) rfl) rfl) rfl) rfl) rfl) rfl

theorem dflX1 : ∀ j, j < 1 → defaultValue (tyX1 j) = vp_V (kn_fs (kn_ad0 0) kn_v0 0 [2]) j := lt_s lt_0 rfl

theorem dflX2 : ∀ j, j < 4 → defaultValue (tyX2 j) = vp_V (kn_fs (kn_ad0 0) kn_v0 0 [2, 0, 0, 0]) j := lt_s (lt_s (lt_s (lt_s lt_0 rfl) rfl) rfl) rfl

theorem dflX3 : ∀ j, j < 6 → defaultValue (tyX3 j) = vp_V (kn_fs (kn_ad0 0) kn_v0 0 [2, 0, 2, 2, 0, 2]) j := lt_s (lt_s (lt_s (lt_s (lt_s (lt_s lt_0 rfl) rfl) rfl) rfl) rfl) rfl

theorem dflX4 : ∀ j, j < 3 → defaultValue (tyX4 j) = vp_V (kn_fs (kn_ad0 0) kn_v0 0 [2, 2, 0]) j := lt_s (lt_s (lt_s lt_0 rfl) rfl) rfl

theorem dflX5 : ∀ j, j < 10 → defaultValue (tyX5 j) = vp_V (kn_fs (kn_ad0 0) kn_v0 0 [2, 0, 0, 2, 2, 0, 0, 0, 2, 2]) j := lt_s (lt_s (lt_s (lt_s (lt_s (lt_s (lt_s (lt_s (lt_s (lt_s lt_0 rfl) rfl) rfl) rfl) rfl) rfl) rfl) rfl) rfl) rfl

theorem dflX6 : ∀ j, j < 9 → defaultValue (tyX6 j) = vp_V (kn_fs (kn_ad0 0) kn_v0 0 [0, 0, 0, 2, 2, 2, 2, 2, 2]) j := lt_s (lt_s (lt_s (lt_s (lt_s (lt_s (lt_s (lt_s (lt_s lt_0 rfl) rfl) rfl) rfl) rfl) rfl) rfl) rfl) rfl

theorem dflX7 : ∀ j, j < 6 → defaultValue (tyX7 j) = vp_V (kn_fs (kn_ad0 0) kn_v0 0 [2, 2, 2, 0, 0, 0]) j := lt_s (lt_s (lt_s (lt_s (lt_s (lt_s lt_0 rfl) rfl) rfl) rfl) rfl) rfl

theorem dflX8 : ∀ j, j < 12 → defaultValue (tyX8 j) = vp_V (kn_fs (kn_ad0 0) kn_v0 0 [2, 0, 2, 2, 2, 0, 2, 2, 2, 2, 2, 2]) j := lt_s (lt_s (lt_s (lt_s (lt_s (lt_s (lt_s (lt_s (lt_s (lt_s (lt_s (lt_s lt_0 rfl) rfl) rfl) rfl) rfl) rfl) rfl) rfl) rfl) rfl) rfl) rfl

theorem dflX9 : ∀ j, j < 67 → defaultValue (tyX9 j) = vp_V (kn_fs (kn_ad0 0) kn_v0 0 [0, 2, 2, 2, 2, 2, 2, 2, 2, 2, 2, 2, 2, 2, 2, 2, 2, 2, 2, 2, 2, 2, 2, 2, 2, 2, 2, 2, 2, 2, 0, 0, 0, 0, 0, 0, 0, 0, 0, 0, 2, 2, 2, 2, 2, 2, 2, 2, 2, 2, 0, 2, 2, 0, 0, 2, 2, 0, 0, 0, 2, 2, 2, 2, 2, 0, 0]) j := lt_s (lt_s (lt_s (lt_s (lt_s (lt_s (lt_s (lt_s (lt_s (lt_s (lt_s (lt_s (lt_s (lt_s (lt_s (lt_s (lt_s (lt_s (lt_s (lt_s (lt_s (lt_s (lt_s (lt_s (lt_s (lt_s (lt_s (lt_s (lt_s (lt_s (lt_s (lt_s (lt_s (lt_s (lt_s (lt_s (lt_s (lt_s (lt_s (lt_s (lt_s (lt_s (lt_s (lt_s (lt_s (lt_s (lt_s (lt_s (lt_s (lt_s (lt_s (lt_s (lt_s (lt_s (lt_s (lt_s (lt_s (lt_s (lt_s (lt_s (lt_s (lt_s (lt_s (lt_s (lt_s (lt_s (lt_s lt_0 rfl) rfl) rfl) rfl) rfl) rfl) rfl) rfl) rfl) rfl) rfl) rfl) rfl) rfl) rfl) rfl) rfl) rfl) rfl) rfl) rfl) rfl) rfl) rfl) rfl) rfl) rfl) rfl) rfl) rfl) rfl) rfl) rfl) rfl) rfl) rfl) rfl) rfl) rfl) rfl) rfl) rfl) rfl) rfl) rfl) rfl) rfl) rfl) rfl) rfl) rfl) rfl) rfl) rfl) rfl) rfl) rfl) rfl) rfl) rfl) rfl) rfl) rfl) rfl) rfl) rfl) rfl

abbrev rmX1_init : Room := { frames := 3, cells := 2, slots := 4, locals := 200 }
set_option maxRecDepth 100000 in
set_option maxHeartbeats 4000000 in
theorem ctX1_init {l : Launch} {D : va_G} {tc : Nat → ClassId} {Z : (Nat → Nat) × (Nat → Nat)} {h0 : Nat} : CTv l D tc Z yX1_init (Cond.code yX1_init cX1_init 1 none :: kn_all) rmX1_init 2 4 [.ref h0] [(kRawX1, kn_ad0 h0, kn_v0)] (fun (u : (Nat → Nat) × (Nat → Nat)) => [(kHillReader, u.1, kn_v0), (kReader, u.2, v0X2)]) (fun (u : (Nat → Nat) × (Nat → Nat)) => u.1 0 = h0 ∧ u.1 (0 + 1) = u.2 0) := by
  refine kn_ofv (cc := cX1_init) (nL := 1) (ret := none) (lv := [(0, .ref h0)]) (by decide) (Nat.le_of_ble_eq_true rfl) rfl (fun p e s m below meth c ls X I hl hin9 => ?_)
  obtain ⟨S0, hr, hlocks, hK, hZ, hA⟩ := id X
  obtain ⟨hx, hb, hml, hown, hts⟩ := id S0
  have hin : meth.name = "<init>" := hin9 rfl
  refine lv_aload_n hx hb (kn_dec tX1_init 0 rfl) rfl (lv_at hl 0 rfl) ?_
  refine W.objInit hx hb hown (hts _ q1_31) (hts _ q1_24) (hts _ q1_25) rfl (by rw [hml]; exact hl.1) rfl (kn_dec tX1_init 1 rfl) (Nat.le_of_ble_eq_true rfl) (Nat.le_of_ble_eq_true rfl) ?_
  refine W.eq (g2 := F0 m 4 ls []) rfl ?_
  refine lv_aload_n hx hb (kn_dec tX1_init 2 rfl) rfl (lv_at hl 0 rfl) ?_
  refine kw_new (ci := 2) (fl := [2, 0, 0, 0]) S0 hK hA I inX2 tyX2 tyX2_ok q1_32 q1_33 q1_3 rfl dflX2 (Nat.le_of_ble_eq_true rfl) (Nat.le_of_ble_eq_true rfl) (kn_dec tX1_init 3 rfl) (fun q5 H I => ?_)
  refine lv_dup hx hb (kn_dec tX1_init 4 rfl) rfl ?_
  refine kw_initN S0 hK hZ hA I ctX2_init 1 rfl q1_3 q1_36 q1_35 rfl rfl (by decide +kernel) rfl ⟨(Nat.le_of_ble_eq_true rfl), (Nat.le_of_ble_eq_true rfl)⟩ hl.1 (Nat.le_of_ble_eq_true rfl) (kn_dec tX1_init 5 rfl) ⟨(Nat.le_of_ble_eq_true rfl), (Nat.le_of_ble_eq_true rfl)⟩ (fun u9 H locs hp9 I => ?_)
  have I : kn_I D tc _ s.heap [(kRawX1, (kn_ad0 h0), kn_v0), (kReader, u9, v0X2)] _ _ := I
  refine kw_putF (ad := (kn_ad0 h0)) hx hb hts inX1 tyX1 tyX1_ok nmX1 hown hK I 0 rfl rfl 0 (by decide) rfl (hts _ q1_56) rfl hin rfl rfl rfl (kn_dec tX1_init 6 rfl) (fun H locs I => ?_)
  have I : kn_I D tc _ s.heap [(kRawX1, (kn_up (kn_ad0 h0) 0 (q5 + 1)), kn_v0), (kReader, u9, v0X2)] _ _ := I
  subst hp9
  have I := kn_conv (w' := [(kHillReader, (fun j => match j with | 0 => h0 | 1 => u9 0 | _ => 0), kn_v0), (kReader, u9, v0X2)]) I rfl
  exact kw_vret hx hb hr hlocks I ((fun j => match j with | 0 => h0 | 1 => u9 0 | _ => 0), u9) rfl ⟨rfl, rfl⟩ (kn_dec tX1_init 7 rfl)

abbrev rmX4_init : Room := { frames := 3, cells := 7, slots := 499, locals := 200 }
set_option maxRecDepth 100000 in
set_option maxHeartbeats 4000000 in
theorem ctX4_init {l : Launch} {D : va_G} {tc : Nat → ClassId} {Z : (Nat → Nat) × (Nat → Nat)} {h0 : Nat} : CTv l D tc Z yX4_init (Cond.code yX4_init cX4_init 1 none :: kn_all) rmX4_init 7 499 [.ref h0] [(kRawX4, kn_ad0 h0, kn_v0)] (fun (u : (Nat → Nat) × (Nat → Nat) × (Nat → Nat)) => [(kRuleReader, u.1, kn_v0), (kReader, u.2.1, v0X2), (kRule, u.2.2, v0X3)]) (fun (u : (Nat → Nat) × (Nat → Nat) × (Nat → Nat)) => u.1 0 = h0 ∧ u.1 (0 + 1) = u.2.1 0 ∧ u.1 (1 + 1) = u.2.2 0) := by
  refine kn_ofv (cc := cX4_init) (nL := 1) (ret := none) (lv := [(0, .ref h0)]) (by decide) (Nat.le_of_ble_eq_true rfl) rfl (fun p e s m below meth c ls X I hl hin9 => ?_)
  obtain ⟨S0, hr, hlocks, hK, hZ, hA⟩ := id X
  obtain ⟨hx, hb, hml, hown, hts⟩ := id S0
  have hin : meth.name = "<init>" := hin9 rfl
  refine lv_aload_n hx hb (kn_dec tX4_init 0 rfl) rfl (lv_at hl 0 rfl) ?_
  refine W.objInit hx hb hown (hts _ q1_65) (hts _ q1_24) (hts _ q1_25) rfl (by rw [hml]; exact hl.1) rfl (kn_dec tX4_init 1 rfl) (Nat.le_of_ble_eq_true rfl) (Nat.le_of_ble_eq_true rfl) ?_
  refine W.eq (g2 := F0 m 4 ls []) rfl ?_
  refine lv_aload_n hx hb (kn_dec tX4_init 2 rfl) rfl (lv_at hl 0 rfl) ?_
  refine kw_new (ci := 2) (fl := [2, 0, 0, 0]) S0 hK hA I inX2 tyX2 tyX2_ok q1_66 q1_33 q1_3 rfl dflX2 (Nat.le_of_ble_eq_true rfl) (Nat.le_of_ble_eq_true rfl) (kn_dec tX4_init 3 rfl) (fun q5 H I => ?_)
  refine lv_dup hx hb (kn_dec tX4_init 4 rfl) rfl ?_
  refine kw_initN S0 hK hZ hA I ctX2_init 3 rfl q1_3 q1_36 q1_35 rfl rfl (by decide +kernel) rfl ⟨(Nat.le_of_ble_eq_true rfl), (Nat.le_of_ble_eq_true rfl)⟩ hl.1 (Nat.le_of_ble_eq_true rfl) (kn_dec tX4_init 5 rfl) ⟨(Nat.le_of_ble_eq_true rfl), (Nat.le_of_ble_eq_true rfl)⟩ (fun u9 H locs hp9 I => ?_)
  have I : kn_I D tc _ s.heap [(kRawX4, (kn_ad0 h0), kn_v0), (kReader, u9, v0X2)] _ _ := I
  refine kw_putF (ad := (kn_ad0 h0)) hx hb hts inX4 tyX4 tyX4_ok nmX4 hown hK I 0 rfl rfl 0 (by decide) rfl (hts _ q1_94) rfl hin rfl rfl rfl (kn_dec tX4_init 6 rfl) (fun H locs I => ?_)
  have I : kn_I D tc _ s.heap [(kRawX4, (kn_up (kn_ad0 h0) 0 (q5 + 1)), kn_v0), (kReader, u9, v0X2)] _ _ := I
  refine lv_aload_n hx hb (kn_dec tX4_init 7 rfl) rfl (lv_at hl 0 rfl) ?_
  refine kw_new (ci := 3) (fl := [2, 0, 2, 2, 0, 2]) S0 hK hA I inX3 tyX3 tyX3_ok q1_68 q1_69 q1_5 rfl dflX3 (Nat.le_of_ble_eq_true rfl) (Nat.le_of_ble_eq_true rfl) (kn_dec tX4_init 8 rfl) (fun q16 H I => ?_)
  refine lv_dup hx hb (kn_dec tX4_init 9 rfl) rfl ?_
  refine kw_initN S0 hK hZ hA I ctX3_init 4 rfl q1_5 q1_72 q1_71 rfl rfl (by decide +kernel) rfl ⟨(Nat.le_of_ble_eq_true rfl), (Nat.le_of_ble_eq_true rfl)⟩ hl.1 (Nat.le_of_ble_eq_true rfl) (kn_dec tX4_init 10 rfl) ⟨(Nat.le_of_ble_eq_true rfl), (Nat.le_of_ble_eq_true rfl)⟩ (fun u20 H locs hp20 I => ?_)
  have I : kn_I D tc _ s.heap [(kRawX4, (kn_up (kn_ad0 h0) 0 (q5 + 1)), kn_v0), (kReader, u9, v0X2), (kRule, u20, v0X3)] _ _ := I
  refine kw_putN (ad := (kn_up (kn_ad0 h0) 0 (q5 + 1))) hx hb hts inX4 tyX4 tyX4_ok nmX4 hown hK I 0 rfl rfl 1 (by decide) rfl (hts _ q1_95) rfl rfl rfl (kn_dec tX4_init 11 rfl) (fun H locs I => ?_)
  have I : kn_I D tc _ s.heap [(kRawX4, (kn_up (kn_up (kn_ad0 h0) 0 (q5 + 1)) 1 (q16 + 1)), kn_v0), (kReader, u9, v0X2), (kRule, u20, v0X3)] _ _ := I
  subst hp9
  subst hp20
  have I := kn_conv (w' := [(kRuleReader, (fun j => match j with | 0 => h0 | 1 => u9 0 | 2 => u20 0 | _ => 0), kn_v0), (kReader, u9, v0X2), (kRule, u20, v0X3)]) I rfl
  exact kw_vret hx hb hr hlocks I ((fun j => match j with | 0 => h0 | 1 => u9 0 | 2 => u20 0 | _ => 0), u9, u20) rfl ⟨rfl, rfl, rfl⟩ (kn_dec tX4_init 12 rfl)
