theorem kn_widen {p : Program} {l : Launch} {e : Env} {R : Room} {s : State} {m : MethodId} {args : Array Value} {below : List Frame} {meth : Method} {c : Code} {H : Heap} {locs : List Loc} {cells slots k n : Nat} {Q : State → Prop} {g : JFrame} (h1 : cells ≤ k) (h2 : slots ≤ n) (kk : W p l e R s m args below meth c H locs k n Q g) : W p l e R s m args below meth c H locs cells slots Q g := fun T hT X => kk T hT (stand_widen X h1 h2)

abbrev rmX4_handOver : Room := { frames := 3, cells := 5, slots := 495, locals := 200 }
set_option maxRecDepth 100000 in
set_option maxHeartbeats 4000000 in
theorem ctX4_handOver {l : Launch} {D : va_G} {tc : Nat → ClassId} {Z : (Nat → Nat) × (Nat → Nat)} {ad_q ad_u : Nat → Nat} {v_q v_u : OV} (e_q_1 : ad_q (1 + 1) = ad_u 0) : CTq l D tc Z yX4_handOver (Cond.code yX4_handOver cX4_handOver 2 (some (.object "TinWall$Rule")) :: kn_all) rmX4_handOver 5 495 [.ref (ad_q 0)] [(kRuleReader, ad_q, v_q), (kRule, ad_u, v_u)] (fun (n : Nat → Nat) => [(kRuleReader, kn_up ad_q 1 (n 0), v_q), (kRule, ad_u, v_u), (kRule, n, v0X3)]) (fun (r : Option Nat) (n : Nat → Nat) => r = some (ad_u 0)) := by
  refine kn_ofq (cc := cX4_handOver) (nL := 2) (ret := (some (.object "TinWall$Rule"))) (lv := [(0, .ref (ad_q 0))]) (by decide) (Nat.le_of_ble_eq_true rfl) rfl (fun p e s m below meth c ls X I hl _ => ?_)
  obtain ⟨S0, hr, hlocks, hK, hZ, hA⟩ := id X
  obtain ⟨hx, hb, hml, hown, hts⟩ := id S0
  refine lv_aload_n hx hb (kn_dec tX4_handOver 0 rfl) rfl (lv_at hl 0 rfl) ?_
  refine kw_getl hx hb hts inX4 hown hK I 0 rfl rfl 1 (by decide) rfl (hts _ q1_95) (kn_dec tX4_handOver 1 rfl) e_q_1 ?_
  refine lv_astore_n (lv' := [(1, .ref (ad_u 0)), (0, .ref (ad_q 0))]) hx hb (kn_dec tX4_handOver 2 rfl) rfl hl (by decide) rfl (fun ls hl => ?_)
  refine lv_aload_n hx hb (kn_dec tX4_handOver 3 rfl) rfl (lv_at hl 1 rfl) ?_
  refine kw_new (ci := 3) (fl := [2, 0, 2, 2, 0, 2]) S0 hK hA I inX3 tyX3 tyX3_ok q1_68 q1_69 q1_5 rfl dflX3 (Nat.le_of_ble_eq_true rfl) (Nat.le_of_ble_eq_true rfl) (kn_dec tX4_handOver 4 rfl) (fun q6 H I => ?_)
  refine lv_dup hx hb (kn_dec tX4_handOver 5 rfl) rfl ?_
  refine kw_initN S0 hK hZ hA I ctX3_init 4 rfl q1_5 q1_72 q1_71 rfl rfl (by decide +kernel) rfl ⟨(Nat.le_of_ble_eq_true rfl), (Nat.le_of_ble_eq_true rfl)⟩ hl.1 (Nat.le_of_ble_eq_true rfl) (kn_dec tX4_handOver 6 rfl) ⟨(Nat.le_of_ble_eq_true rfl), (Nat.le_of_ble_eq_true rfl)⟩ (fun u H locs hu I => ?_)
  rw [← hu]
  have I : kn_I D tc _ s.heap [(kRuleReader, ad_q, v_q), (kRule, ad_u, v_u), (kRule, u, v0X3)] _ _ := I
  refine kw_putl hx hb hts inX4 tyX4 tyX4_ok nmX4 hown hK I 0 rfl rfl 1 (by decide) rfl nkRuleReader_1 (by decide) (hts _ q1_95) rfl rfl rfl (kn_dec tX4_handOver 7 rfl) (fun H locs I => ?_)
  have I : kn_I D tc _ s.heap [(kRuleReader, kn_up ad_q 1 (u 0), v_q), (kRule, ad_u, v_u), (kRule, u, v0X3)] _ _ := I
  refine lv_aload_n hx hb (kn_dec tX4_handOver 8 rfl) rfl (lv_at hl 0 rfl) ?_
  exact kw_aret (r := some (ad_u 0)) hx hb hr (Or.inl ⟨_, rfl⟩) hlocks I u rfl rfl rfl (kn_dec tX4_handOver 9 rfl)

/-- hill(): the new HILL stands behind the rest; b: it is the scene's -/
def PX8_hill (v_t v_c v_s v_g v_r : OV) (post : Int32 → Bool → OV → OV → OV → OV → OV → Prop) : Prop := PX1_read v_g v_r v_t v0X0 (v_t.1 1) (fun r v_r1 v_h1 => ∀ v_t1 : OV, v_t1 = si v_t 1 0 → (r = 0 → PX5_begin v_c v_s v_h1 (fun v_c1 v_s1 => post (v_h1.1 4) true v_t1 v_c1 v_s1 v_r1 v_h1)) ∧ (¬ r = 0 → post ((-2) - r) false v_t1 v_c v_s v_r1 v_h1))
abbrev rmX8_hill : Room := { frames := 9, cells := 10, slots := 78, locals := 400 }
set_option maxRecDepth 100000 in
set_option maxHeartbeats 4000000 in
theorem ctX8_hill {l : Launch} {D : va_G} {tc : Nat → ClassId} {Z : (Nat → Nat) × (Nat → Nat)} {ad_t ad_c ad_s ad_g ad_r : Nat → Nat} {v_t v_c v_s v_g v_r : OV} (e_t_2 : ad_t (2 + 1) = ad_g 0) (e_t_6 : ad_t (6 + 1) = ad_c 0) (e_c_3 : ad_c (3 + 1) = ad_s 0) (e_g_0 : ad_g (0 + 1) = ad_r 0) {post : Int32 → Bool → OV → OV → OV → OV → OV → Prop} (h : PX8_hill v_t v_c v_s v_g v_r post) : CTi l D tc Z yX8_hill (Cond.code yX8_hill cX8_hill 3 (some .int) :: kn_all) rmX8_hill 10 78 [.ref (ad_t 0)] [(kTin, ad_t, v_t), (kScene, ad_c, v_c), (kState, ad_s, v_s), (kHillReader, ad_g, v_g), (kReader, ad_r, v_r)] (fun (u : (Nat → Nat) × Bool × OV × OV × OV × OV × OV) => [(kTin, ad_t, u.2.2.1), (kScene, (if u.2.1 then kn_up ad_c 0 (u.1 0) else ad_c), u.2.2.2.1), (kState, ad_s, u.2.2.2.2.1), (kHillReader, ad_g, v_g), (kReader, kn_up ad_r 0 (ad_t (0 + 1)), u.2.2.2.2.2.1), (kHill, u.1, u.2.2.2.2.2.2)]) (fun (r : Int32) (u : (Nat → Nat) × Bool × OV × OV × OV × OV × OV) => post r u.2.1 u.2.2.1 u.2.2.2.1 u.2.2.2.2.1 u.2.2.2.2.2.1 u.2.2.2.2.2.2) := by
  refine kn_ofi (cc := cX8_hill) (nL := 3) (ret := (some .int)) (lv := [(0, .ref (ad_t 0))]) (by decide) (Nat.le_of_ble_eq_true rfl) rfl (fun p e s m below meth c ls X I hl _ => ?_)
  obtain ⟨S0, hr, hlocks, hK, hZ, hA⟩ := id X
  obtain ⟨hx, hb, hml, hown, hts⟩ := id S0
  unfold PX8_hill at h
  refine kw_new (ci := 0) (fl := [0, 0, 0, 0, 0, 2, 2, 2, 0, 0, 2, 0, 2, 2, 2, 2, 0, 2]) S0 hK hA I inX0 tyX0 tyX0_ok q2_152 q1_113 q1_7 rfl dflX0 (Nat.le_of_ble_eq_true rfl) (Nat.le_of_ble_eq_true rfl) (kn_dec tX8_hill 0 rfl) (fun q0 H I => ?_)
  refine lv_dup hx hb (kn_dec tX8_hill 1 rfl) rfl ?_
  refine kw_initN S0 hK hZ hA I ctX0_init 9 rfl q1_7 q1_116 q1_115 rfl rfl (by decide +kernel) rfl ⟨(Nat.le_of_ble_eq_true rfl), (Nat.le_of_ble_eq_true rfl)⟩ hl.1 (Nat.le_of_ble_eq_true rfl) (kn_dec tX8_hill 2 rfl) ⟨(Nat.le_of_ble_eq_true rfl), (Nat.le_of_ble_eq_true rfl)⟩ (fun ad_h H locs hu I => ?_)
  rw [← hu]
  have I : kn_I D tc (kn_A _ s.heap.size) s.heap [(kTin, ad_t, v_t), (kScene, ad_c, v_c), (kState, ad_s, v_s), (kHillReader, ad_g, v_g), (kReader, ad_r, v_r), (kHill, ad_h, v0X0)] _ _ := I
  refine lv_astore_n (lv' := [(1, .ref (ad_h 0)), (0, .ref (ad_t 0))]) hx hb (kn_dec tX8_hill 3 rfl) rfl hl (by decide) rfl (fun ls hl => ?_)
  refine lv_aload_n hx hb (kn_dec tX8_hill 4 rfl) rfl (lv_at hl 1 rfl) ?_
  refine kw_getl hx hb hts inX8 hown hK I 0 rfl rfl 2 (by decide) rfl (hts _ q2_101) (kn_dec tX8_hill 5 rfl) e_t_2 ?_
  refine lv_aload_n hx hb (kn_dec tX8_hill 6 rfl) rfl (lv_at hl 0 rfl) ?_
  refine lv_aload_n hx hb (kn_dec tX8_hill 7 rfl) rfl (lv_at hl 1 rfl) ?_
  refine kw_getl hx hb hts inX8 hown hK I 0 rfl rfl 0 (by decide) rfl (hts _ q2_99) (kn_dec tX8_hill 8 rfl) rfl ?_
  refine lv_aload_n hx hb (kn_dec tX8_hill 9 rfl) rfl (lv_at hl 1 rfl) ?_
  refine kw_geti hx hb hts inX8 hown hK I 0 rfl rfl 1 (by decide) rfl (hts _ q2_100) (kn_dec tX8_hill 10 rfl) ?_
  refine kw_calli (wc := [(kHillReader, ad_g, _), (kReader, ad_r, _), (kTin, ad_t, _), (kHill, ad_h, _)]) (wr := [(kScene, ad_c, _), (kState, ad_s, _)]) I hA [3, 4, 0, 5] [1, 2] rfl rfl (by decide) (by decide) (kn_runV (As := [.ref (ad_h 0), .ref (ad_t (0 + 1)), .int _]) S0 hK hZ hA I ((ctX1_read e_g_0 h).met _) (kn_cwV 3 hts q2_154 q2_155 q2_156 q1_2 q2_157 rfl rfl (by decide +kernel) ⟨(Nat.le_of_ble_eq_true rfl), (Nat.le_of_ble_eq_true rfl)⟩) [3, 4, 0, 5] rfl (by decide) 3 rfl rfl rfl rfl hl.1 rfl (Nat.le_of_ble_eq_true rfl) (kn_dec tX8_hill 11 rfl) ⟨(Nat.le_of_ble_eq_true rfl), (Nat.le_of_ble_eq_true rfl)⟩) (fun r u H locs h I => ?_)
  have I : kn_I D tc (kn_A _ s.heap.size) s.heap [(kTin, ad_t, _), (kScene, ad_c, _), (kState, ad_s, _), (kHillReader, ad_g, _), (kReader, kn_up ad_r 0 (ad_t (0 + 1)), _), (kHill, ad_h, _)] _ _ := I.sub [4, 0, 1, 2, 3, 5] (by decide) rfl
  refine lv_istore_n (lv' := [(2, .int r), (1, .ref (ad_h 0)), (0, .ref (ad_t 0))]) hx hb (kn_dec tX8_hill 12 rfl) rfl hl (by decide) rfl (fun ls hl => ?_)
  refine lv_aload_n hx hb (kn_dec tX8_hill 13 rfl) rfl (lv_at hl 2 rfl) ?_
  refine lv_iconst (v := (0)) hx hb (kn_dec tX8_hill 14 rfl) (by decide) ?_
  refine kw_puti hx hb hts inX8 tyX8 tyX8_ok nmX8 hown hK I 0 rfl rfl 1 (by decide) rfl (hts _ q2_100) rfl rfl rfl (kn_dec tX8_hill 15 rfl) (fun v_t1 ev H locs I => ?_)
  have h := h v_t1 ev
  have I : kn_I D tc (kn_A _ s.heap.size) s.heap [(kTin, ad_t, _), (kScene, ad_c, _), (kState, ad_s, _), (kHillReader, ad_g, _), (kReader, kn_up ad_r 0 (ad_t (0 + 1)), _), (kHill, ad_h, _)] _ _ := I
  refine lv_iload_n hx hb (kn_dec tX8_hill 16 rfl) rfl (lv_at hl 0 rfl) ?_
  refine lv_if_eq (tgt := 39) hx hb (kn_dec tX8_hill 17 rfl) (by decide) (fun c1 => ?_) (fun c1 => ?_)
  · have h := h.1 c1
    refine lv_aload_n hx hb (kn_dec tX8_hill 22 rfl) rfl (lv_at hl 2 rfl) ?_
    refine kw_getl hx hb hts inX8 hown hK I 0 rfl rfl 6 (by decide) rfl (hts _ q2_105) (kn_dec tX8_hill 23 rfl) e_t_6 ?_
    refine lv_aload_n hx hb (kn_dec tX8_hill 24 rfl) rfl (lv_at hl 1 rfl) ?_
    refine kw_callv (wc := [(kScene, ad_c, _), (kState, ad_s, _), (kHill, ad_h, _)]) (wr := [(kTin, ad_t, _), (kHillReader, ad_g, _), (kReader, kn_up ad_r 0 (ad_t (0 + 1)), _)]) I hA [1, 2, 5] [0, 3, 4] rfl rfl (by decide) (by decide) (kn_runV (As := [.ref (ad_h 0)]) S0 hK hZ hA I ((ctX5_begin e_c_3 h).met _) (kn_cwV 1 hts q3_31 q3_32 q3_33 q1_6 q3_34 rfl rfl (by decide +kernel) ⟨(Nat.le_of_ble_eq_true rfl), (Nat.le_of_ble_eq_true rfl)⟩) [1, 2, 5] rfl (by decide) 1 rfl rfl rfl rfl hl.1 rfl (Nat.le_of_ble_eq_true rfl) (kn_dec tX8_hill 25 rfl) ⟨(Nat.le_of_ble_eq_true rfl), (Nat.le_of_ble_eq_true rfl)⟩) (fun u2 H locs h I => ?_)
    have I : kn_I D tc (kn_A _ s.heap.size) s.heap [(kTin, ad_t, _), (kScene, kn_up ad_c 0 (ad_h 0), _), (kState, ad_s, _), (kHillReader, ad_g, _), (kReader, kn_up ad_r 0 (ad_t (0 + 1)), _), (kHill, ad_h, _)] _ _ := I.sub [0, 3, 4, 1, 2, 5] (by decide) rfl
    refine lv_aload_n hx hb (kn_dec tX8_hill 26 rfl) rfl (lv_at hl 1 rfl) ?_
    refine kw_geti hx hb hts inX0 hown hK I 5 rfl rfl 4 (by decide) rfl (hts _ q1_131) (kn_dec tX8_hill 27 rfl) ?_
    exact kw_iret hx hb hr hlocks I (ad_h, true, v_t1, u2.1, u2.2, u.1, u.2) rfl h (kn_dec tX8_hill 28 rfl)
  · have h := h.2 c1
    refine lv_bipush (v := (-2)) hx hb (kn_dec tX8_hill 18 rfl) (by decide) ?_
    refine lv_iload_n hx hb (kn_dec tX8_hill 19 rfl) rfl (lv_at hl 0 rfl) ?_
    refine lv_isub hx hb (kn_dec tX8_hill 20 rfl) ?_
    exact kw_iret hx hb hr hlocks I (ad_h, false, v_t1, v_c, v_s, u.1, u.2) rfl h (kn_dec tX8_hill 21 rfl)

theorem kTin_sm : kn_sm kTin := ⟨(fun o h => by (have h2 : (8, [1, 0, 1, 1, 1, 0, 1, 1, 1, 1, 1, 1]) = o := Option.some.inj h); subst h2; decide), by decide⟩
def PX8_rule (v_t v_q v_r v_u : OV) (post : Int32 → Bool → OV → OV → OV → OV → Prop) : Prop := (v_t.1 5 < (6 : Int32) → PX4_read v_q v_r v_u v_t (v_t.1 1) (fun r v_q1 v_r1 v_u1 => ∀ v_t1 : OV, v_t1 = si v_t 1 0 → (r = 0 → (vp_in (v_t1.1 5) 6 ∧ ∀ v_t2 : OV, v_t2 = si v_t1 5 (v_t1.1 5 + 1) → post (v_t2.1 5 - 1) true v_t2 v_q1 v_r1 v_u1)) ∧ (¬ r = 0 → post ((-2) - r) false v_t1 v_q1 v_r1 v_u1))) ∧ (¬ v_t.1 5 < (6 : Int32) → post (-1) false v_t v_q v_r v_u)
abbrev rmX8_rule : Room := { frames := 623, cells := 5, slots := 495, locals := 13000 }
set_option maxRecDepth 100000 in
set_option maxHeartbeats 4000000 in
theorem ctX8_rule {l : Launch} {D : va_G} {tc : Nat → ClassId} {Z : (Nat → Nat) × (Nat → Nat)} {ad_t ad_q ad_r ad_u : Nat → Nat} {v_t v_q v_r v_u : OV} (e_t_3 : ad_t (3 + 1) = ad_q 0) (e_q_0 : ad_q (0 + 1) = ad_r 0) (e_q_1 : ad_q (1 + 1) = ad_u 0) {post : Int32 → Bool → OV → OV → OV → OV → Prop} (h : PX8_rule v_t v_q v_r v_u post) : CTi l D tc Z yX8_rule (Cond.code yX8_rule cX8_rule 2 (some .int) :: kn_all) rmX8_rule 5 495 [.ref (ad_t 0)] [(kTin, ad_t, v_t), (kRuleReader, ad_q, v_q), (kReader, ad_r, v_r), (kRule, ad_u, v_u)] (fun (u : (Nat → Nat) × (Nat → Nat) × Bool × OV × OV × OV × OV) => [(kTin, (if u.2.2.1 then kn_uq ad_t 4 (v_t.1 5).toNatClampNeg (ad_u 0) else ad_t), u.2.2.2.1), (kRuleReader, (if u.2.2.1 then kn_up ad_q 1 (u.1 0) else ad_q), u.2.2.2.2.1), (kReader, u.2.1, u.2.2.2.2.2.1), (kRule, ad_u, u.2.2.2.2.2.2)] ++ (if u.2.2.1 then [(kRule, u.1, v0X3)] else [])) (fun (r : Int32) (u : (Nat → Nat) × (Nat → Nat) × Bool × OV × OV × OV × OV) => u.2.1 0 = ad_r 0 ∧ post r u.2.2.1 u.2.2.2.1 u.2.2.2.2.1 u.2.2.2.2.2.1 u.2.2.2.2.2.2) := by
  refine kn_ofi (cc := cX8_rule) (nL := 2) (ret := (some .int)) (lv := [(0, .ref (ad_t 0))]) (by decide) (Nat.le_of_ble_eq_true rfl) rfl (fun p e s m below meth c ls X I hl _ => ?_)
  obtain ⟨S0, hr, hlocks, hK, hZ, hA⟩ := id X
  obtain ⟨hx, hb, hml, hown, hts⟩ := id S0
  unfold PX8_rule at h
  refine lv_aload_n hx hb (kn_dec tX8_rule 0 rfl) rfl (lv_at hl 0 rfl) ?_
  refine kw_geti hx hb hts inX8 hown hK I 0 rfl rfl 5 (by decide) rfl (hts _ q2_104) (kn_dec tX8_rule 1 rfl) ?_
  refine lv_bipush (v := (6)) hx hb (kn_dec tX8_rule 2 rfl) (by decide) ?_
  refine lv_icmp_lt (tgt := 11) hx hb (kn_dec tX8_rule 3 rfl) (by decide) (fun c1 => ?_) (fun c1 => ?_)
  · have h := h.1 c1
    refine lv_aload_n hx hb (kn_dec tX8_rule 6 rfl) rfl (lv_at hl 0 rfl) ?_
    refine kw_getl hx hb hts inX8 hown hK I 0 rfl rfl 3 (by decide) rfl (hts _ q2_102) (kn_dec tX8_rule 7 rfl) e_t_3 ?_
    refine lv_aload_n hx hb (kn_dec tX8_rule 8 rfl) rfl (lv_at hl 0 rfl) ?_
    refine kw_getl hx hb hts inX8 hown hK I 0 rfl rfl 0 (by decide) rfl (hts _ q2_99) (kn_dec tX8_rule 9 rfl) rfl ?_
    refine lv_aload_n hx hb (kn_dec tX8_rule 10 rfl) rfl (lv_at hl 0 rfl) ?_
    refine kw_geti hx hb hts inX8 hown hK I 0 rfl rfl 1 (by decide) rfl (hts _ q2_100) (kn_dec tX8_rule 11 rfl) ?_
    refine kw_calli (wc := [(kRuleReader, ad_q, _), (kReader, ad_r, _), (kRule, ad_u, _), (kTin, ad_t, _)]) (wr := []) I hA [1, 2, 3, 0] [] rfl rfl (by decide) (by decide) (kn_runV (As := [.ref (ad_t (0 + 1)), .int _]) S0 hK hZ hA I ((ctX4_read e_q_0 e_q_1 h).met _) (kn_cwV 2 hts q3_47 q3_48 q3_49 q1_4 q3_50 rfl rfl (by decide +kernel) ⟨(Nat.le_of_ble_eq_true rfl), (Nat.le_of_ble_eq_true rfl)⟩) [1, 2, 3, 0] rfl (by decide) 1 rfl rfl rfl rfl hl.1 rfl (Nat.le_of_ble_eq_true rfl) (kn_dec tX8_rule 12 rfl) ⟨(Nat.le_of_ble_eq_true rfl), (Nat.le_of_ble_eq_true rfl)⟩) (fun r u H locs h I => ?_)
    have I : kn_I D tc (kn_A _ s.heap.size) s.heap [(kTin, ad_t, _), (kRuleReader, ad_q, _), (kReader, kn_up ad_r 0 (ad_t (0 + 1)), _), (kRule, ad_u, _)] _ _ := I.sub [3, 0, 1, 2] (by decide) rfl
    refine lv_istore_n (lv' := [(1, .int r), (0, .ref (ad_t 0))]) hx hb (kn_dec tX8_rule 13 rfl) rfl hl (by decide) rfl (fun ls hl => ?_)
    refine lv_aload_n hx hb (kn_dec tX8_rule 14 rfl) rfl (lv_at hl 1 rfl) ?_
    refine lv_iconst (v := (0)) hx hb (kn_dec tX8_rule 15 rfl) (by decide) ?_
    refine kw_puti hx hb hts inX8 tyX8 tyX8_ok nmX8 hown hK I 0 rfl rfl 1 (by decide) rfl (hts _ q2_100) rfl rfl rfl (kn_dec tX8_rule 16 rfl) (fun v_t1 ev H locs I => ?_)
    have h := h v_t1 ev
    have I : kn_I D tc (kn_A _ s.heap.size) s.heap [(kTin, ad_t, v_t1), (kRuleReader, ad_q, _), (kReader, kn_up ad_r 0 (ad_t (0 + 1)), _), (kRule, ad_u, _)] _ _ := I
    refine lv_iload_n hx hb (kn_dec tX8_rule 17 rfl) rfl (lv_at hl 0 rfl) ?_
    refine lv_if_eq (tgt := 41) hx hb (kn_dec tX8_rule 18 rfl) (by decide) (fun c2 => ?_) (fun c2 => ?_)
    · obtain ⟨hin, h⟩ := h.1 c2
      refine lv_aload_n hx hb (kn_dec tX8_rule 23 rfl) rfl (lv_at hl 1 rfl) ?_
      refine kw_getl hx hb hts inX8 hown hK I 0 rfl rfl 4 (by decide) rfl (hts _ q2_103) (kn_dec tX8_rule 24 rfl) rfl ?_
      refine lv_aload_n hx hb (kn_dec tX8_rule 25 rfl) rfl (lv_at hl 1 rfl) ?_
      refine kw_geti hx hb hts inX8 hown hK I 0 rfl rfl 5 (by decide) rfl (hts _ q2_104) (kn_dec tX8_rule 26 rfl) ?_
      refine lv_aload_n hx hb (kn_dec tX8_rule 27 rfl) rfl (lv_at hl 1 rfl) ?_
      refine kw_getl hx hb hts inX8 hown hK I 0 rfl rfl 3 (by decide) rfl (hts _ q2_102) (kn_dec tX8_rule 28 rfl) e_t_3 ?_
      refine kw_callq (wc := [(kRuleReader, ad_q, u.1), (kRule, ad_u, u.2.2)]) (wr := [(kTin, ad_t, v_t1), (kReader, kn_up ad_r 0 (ad_t (0 + 1)), u.2.1)]) I hA [1, 3] [0, 2] rfl rfl (by decide) (by decide) (kn_runV (As := []) S0 hK hZ hA I ((ctX4_handOver e_q_1).met _) (kn_cwV 0 hts q3_130 q3_131 q3_132 q1_4 q3_133 rfl rfl (by decide +kernel) ⟨(Nat.le_of_ble_eq_true rfl), (Nat.le_of_ble_eq_true rfl)⟩) [1, 3] rfl (by decide) 1 rfl rfl rfl rfl hl.1 rfl (Nat.le_of_ble_eq_true rfl) (kn_dec tX8_rule 29 rfl) ⟨(Nat.le_of_ble_eq_true rfl), (Nat.le_of_ble_eq_true rfl)⟩) (fun ro n H locs hro I => ?_)
      subst hro
      have I : kn_I D tc (kn_A _ s.heap.size) s.heap [(kTin, ad_t, v_t1), (kRuleReader, kn_up ad_q 1 (n 0), u.1), (kReader, kn_up ad_r 0 (ad_t (0 + 1)), u.2.1), (kRule, ad_u, u.2.2), (kRule, n, v0X3)] _ _ := I.sub [0, 2, 1, 3, 4] (by decide) rfl
      refine kw_qast (ad := ad_t) (adj := ad_u) hx hb hK I 0 rfl kTin_sm 4 2 6 (List.mem_of_getElem? (i := 1) rfl) ukTin_4 (r := (RX3, TX3, 6)) rfl 3 rfl rfl hin (kn_dec tX8_rule 30 rfl) (fun H locs I => ?_)
      have e5 : v_t1.1 5 = v_t.1 5 := by
        rw [ev]
        rfl
      have I : kn_I D tc (kn_A _ s.heap.size) s.heap [(kTin, kn_uq ad_t 4 (v_t1.1 5).toNatClampNeg (ad_u 0), v_t1), (kRuleReader, kn_up ad_q 1 (n 0), u.1), (kReader, kn_up ad_r 0 (ad_t (0 + 1)), u.2.1), (kRule, ad_u, u.2.2), (kRule, n, v0X3)] _ _ := I
      have e0 : kn_uq ad_t 4 (v_t1.1 5).toNatClampNeg (ad_u 0) 0 = ad_t 0 := kn_uq_low (by decide)
      refine lv_aload_n hx hb (kn_dec tX8_rule 31 rfl) rfl (lv_at hl 1 rfl) ?_
      refine lv_dup hx hb (kn_dec tX8_rule 32 rfl) rfl ?_
      rw [← e0]
      refine kw_geti hx hb hts inX8 hown hK I 0 rfl rfl 5 (by decide) rfl (hts _ q2_104) (kn_dec tX8_rule 33 rfl) ?_
      refine lv_iconst (v := (1)) hx hb (kn_dec tX8_rule 34 rfl) (by decide) ?_
      refine lv_iadd hx hb (kn_dec tX8_rule 35 rfl) ?_
      refine kw_puti (ad := kn_uq ad_t 4 (v_t1.1 5).toNatClampNeg (ad_u 0)) hx hb hts inX8 tyX8 tyX8_ok nmX8 hown hK I 0 rfl rfl 5 (by decide) rfl (hts _ q2_104) rfl rfl rfl (kn_dec tX8_rule 36 rfl) (fun v_t2 ev2 H locs I => ?_)
      have h := h v_t2 ev2
      have I : kn_I D tc (kn_A _ s.heap.size) s.heap [(kTin, kn_uq ad_t 4 (v_t1.1 5).toNatClampNeg (ad_u 0), v_t2), (kRuleReader, kn_up ad_q 1 (n 0), u.1), (kReader, kn_up ad_r 0 (ad_t (0 + 1)), u.2.1), (kRule, ad_u, u.2.2), (kRule, n, v0X3)] _ _ := I
      refine lv_aload_n hx hb (kn_dec tX8_rule 37 rfl) rfl (lv_at hl 1 rfl) ?_
      rw [← e0]
      refine kw_geti (ad := kn_uq ad_t 4 (v_t1.1 5).toNatClampNeg (ad_u 0)) hx hb hts inX8 hown hK I 0 rfl rfl 5 (by decide) rfl (hts _ q2_104) (kn_dec tX8_rule 38 rfl) ?_
      refine lv_iconst (v := (1)) hx hb (kn_dec tX8_rule 39 rfl) (by decide) ?_
      refine lv_isub hx hb (kn_dec tX8_rule 40 rfl) ?_
      rw [e5] at I
      exact kw_iret hx hb hr hlocks I (n, kn_up ad_r 0 (ad_t (0 + 1)), true, v_t2, u.1, u.2.1, u.2.2) rfl ⟨rfl, h⟩ (kn_dec tX8_rule 41 rfl)
    · have h := h.2 c2
      refine lv_bipush (v := (-2)) hx hb (kn_dec tX8_rule 19 rfl) (by decide) ?_
      refine lv_iload_n hx hb (kn_dec tX8_rule 20 rfl) rfl (lv_at hl 0 rfl) ?_
      refine lv_isub hx hb (kn_dec tX8_rule 21 rfl) ?_
      refine kn_widen (k := 5) (n := 495) (by decide) (by decide) ?_
      exact kw_iret hx hb hr hlocks I (ad_r, kn_up ad_r 0 (ad_t (0 + 1)), false, v_t1, u.1, u.2.1, u.2.2) rfl ⟨rfl, h⟩ (kn_dec tX8_rule 22 rfl)
  · have h := h.2 c1
    refine lv_iconst (v := (-1)) hx hb (kn_dec tX8_rule 4 rfl) (by decide) ?_
    refine kn_widen (k := 5) (n := 495) (by decide) (by decide) ?_
    exact kw_iret hx hb hr hlocks I (ad_r, ad_r, false, v_t, v_q, v_r, v_u) rfl ⟨rfl, h⟩ (kn_dec tX8_rule 5 rfl)

abbrev rmX8_image_bad : Room := { frames := 0, cells := 0, slots := 0, locals := 0 }
set_option maxRecDepth 100000 in
set_option maxHeartbeats 4000000 in
theorem ctX8_image_bad {l : Launch} {D : va_G} {tc : Nat → ClassId} {Z : (Nat → Nat) × (Nat → Nat)} {ad_t : Nat → Nat} {v_t : OV} {k : Int32} (hk : k < 0 ∨ ¬ k < 4) : CTi l D tc Z yX8_image (Cond.code yX8_image cX8_image 2 (some .int) :: kn_all) rmX8_image_bad 0 0 [.ref (ad_t 0), .int k] [(kTin, ad_t, v_t)] (fun (_ : Unit) => [(kTin, ad_t, v_t)]) (fun (r : Int32) (_ : Unit) => r = -1) := by
  refine kn_ofi (cc := cX8_image) (nL := 2) (ret := (some .int)) (lv := [(0, .ref (ad_t 0)), (1, .int k)]) (by decide) (Nat.le_of_ble_eq_true rfl) rfl (fun p e s m below meth c ls X I hl _ => ?_)
  obtain ⟨S0, hr, hlocks, hK, hZ, hA⟩ := id X
  obtain ⟨hx, hb, hml, hown, hts⟩ := id S0
  refine lv_iload_n hx hb (kn_dec tX8_image 0 rfl) rfl (lv_at hl 1 rfl) ?_
  refine lv_if_lt (tgt := 9) hx hb (kn_dec tX8_image 1 rfl) (by decide) (fun c1 => ?_) (fun c1 => ?_)
  · refine lv_iconst (v := (-1)) hx hb (kn_dec tX8_image 5 rfl) (by decide) ?_
    exact kw_iret hx hb hr hlocks I () rfl rfl (kn_dec tX8_image 6 rfl)
  · refine lv_iload_n hx hb (kn_dec tX8_image 2 rfl) rfl (lv_at hl 1 rfl) ?_
    refine lv_iconst (v := (4)) hx hb (kn_dec tX8_image 3 rfl) (by decide) ?_
    refine lv_icmp_lt (tgt := 11) hx hb (kn_dec tX8_image 4 rfl) (by decide) (fun c2 => ?_) (fun c2 => ?_)
    · exact absurd c2 (hk.resolve_left c1)
    · refine lv_iconst (v := (-1)) hx hb (kn_dec tX8_image 5 rfl) (by decide) ?_
      exact kw_iret hx hb hr hlocks I () rfl rfl (kn_dec tX8_image 6 rfl)

abbrev rmX8_back_bad : Room := { frames := 0, cells := 0, slots := 0, locals := 0 }
set_option maxRecDepth 100000 in
set_option maxHeartbeats 4000000 in
theorem ctX8_back_bad {l : Launch} {D : va_G} {tc : Nat → ClassId} {Z : (Nat → Nat) × (Nat → Nat)} {ad_t : Nat → Nat} {v_t : OV} {k : Int32} (hk : k < 0 ∨ ¬ k < 4) : CTi l D tc Z yX8_back (Cond.code yX8_back cX8_back 2 (some .int) :: kn_all) rmX8_back_bad 0 0 [.ref (ad_t 0), .int k] [(kTin, ad_t, v_t)] (fun (_ : Unit) => [(kTin, ad_t, v_t)]) (fun (r : Int32) (_ : Unit) => r = -1) := by
  refine kn_ofi (cc := cX8_back) (nL := 2) (ret := (some .int)) (lv := [(0, .ref (ad_t 0)), (1, .int k)]) (by decide) (Nat.le_of_ble_eq_true rfl) rfl (fun p e s m below meth c ls X I hl _ => ?_)
  obtain ⟨S0, hr, hlocks, hK, hZ, hA⟩ := id X
  obtain ⟨hx, hb, hml, hown, hts⟩ := id S0
  refine lv_iload_n hx hb (kn_dec tX8_back 0 rfl) rfl (lv_at hl 1 rfl) ?_
  refine lv_if_lt (tgt := 18) hx hb (kn_dec tX8_back 1 rfl) (by decide) (fun c1 => ?_) (fun c1 => ?_)
  · refine lv_iconst (v := (-1)) hx hb (kn_dec tX8_back 10 rfl) (by decide) ?_
    exact kw_iret hx hb hr hlocks I () rfl rfl (kn_dec tX8_back 11 rfl)
  · refine lv_iload_n hx hb (kn_dec tX8_back 2 rfl) rfl (lv_at hl 1 rfl) ?_
    refine lv_iconst (v := (4)) hx hb (kn_dec tX8_back 3 rfl) (by decide) ?_
    refine lv_icmp_ge (tgt := 18) hx hb (kn_dec tX8_back 4 rfl) (by decide) (fun c2 => ?_) (fun c2 => ?_)
    · refine lv_iconst (v := (-1)) hx hb (kn_dec tX8_back 10 rfl) (by decide) ?_
      exact kw_iret hx hb hr hlocks I () rfl rfl (kn_dec tX8_back 11 rfl)
    · exact absurd (Int32.not_le.mp c2) (hk.resolve_left c1)

abbrev rmX8_back_none : Room := { frames := 0, cells := 0, slots := 0, locals := 0 }
set_option maxRecDepth 100000 in
set_option maxHeartbeats 4000000 in
theorem ctX8_back_none {l : Launch} {D : va_G} {tc : Nat → ClassId} {Z : (Nat → Nat) × (Nat → Nat)} {ad_t : Nat → Nat} {v_t : OV} {k : Int32} (hk0 : ¬ k < 0) (hk1 : k < 4) (hin : vp_in k 4) (hq : kn_q ad_t 7 k.toNatClampNeg = none) : CTi l D tc Z yX8_back (Cond.code yX8_back cX8_back 2 (some .int) :: kn_all) rmX8_back_none 0 0 [.ref (ad_t 0), .int k] [(kTin, ad_t, v_t)] (fun (_ : Unit) => [(kTin, ad_t, v_t)]) (fun (r : Int32) (_ : Unit) => r = -1) := by
  refine kn_ofi (cc := cX8_back) (nL := 2) (ret := (some .int)) (lv := [(0, .ref (ad_t 0)), (1, .int k)]) (by decide) (Nat.le_of_ble_eq_true rfl) rfl (fun p e s m below meth c ls X I hl _ => ?_)
  obtain ⟨S0, hr, hlocks, hK, hZ, hA⟩ := id X
  obtain ⟨hx, hb, hml, hown, hts⟩ := id S0
  refine lv_iload_n hx hb (kn_dec tX8_back 0 rfl) rfl (lv_at hl 1 rfl) ?_
  refine lv_if_lt (tgt := 18) hx hb (kn_dec tX8_back 1 rfl) (by decide) (fun c1 => absurd c1 hk0) (fun c1 => ?_)
  refine lv_iload_n hx hb (kn_dec tX8_back 2 rfl) rfl (lv_at hl 1 rfl) ?_
  refine lv_iconst (v := (4)) hx hb (kn_dec tX8_back 3 rfl) (by decide) ?_
  refine lv_icmp_ge (tgt := 18) hx hb (kn_dec tX8_back 4 rfl) (by decide) (fun c2 => absurd hk1 (Int32.not_lt.mpr c2)) (fun c2 => ?_)
  refine lv_aload_n hx hb (kn_dec tX8_back 5 rfl) rfl (lv_at hl 0 rfl) ?_
  refine kw_getl hx hb hts inX8 hown hK I 0 rfl rfl 7 (by decide) rfl (hts _ q2_106) (kn_dec tX8_back 6 rfl) rfl ?_
  refine lv_iload_n hx hb (kn_dec tX8_back 7 rfl) rfl (lv_at hl 1 rfl) ?_
  refine kw_qald hx hb hK I 0 rfl 7 1 4 (List.mem_of_getElem? (i := 2) rfl) rfl hin (kn_dec tX8_back 8 rfl) hq ?_
  refine lv_ifnonnullN hx hb (kn_dec tX8_back 9 rfl) ?_
  refine lv_iconst (v := (-1)) hx hb (kn_dec tX8_back 10 rfl) (by decide) ?_
  exact kw_iret hx hb hr hlocks I () rfl rfl (kn_dec tX8_back 11 rfl)

abbrev rmX8_back : Room := { frames := 4, cells := 0, slots := 0, locals := 300 }
def PX8_back (v_c v_s v_d v_z : OV) (v_pp v_qq : Nat → OV) (post : Int32 → OV → OV → (Nat → OV) → Prop) : Prop := PX5_copy v_c v_s v_d v_z v_pp v_qq (fun v_c1 v_s1 v_pp1 => post (v_s1.1 0) v_c1 v_s1 v_pp1)
set_option maxRecDepth 100000 in
set_option maxHeartbeats 4000000 in
theorem ctX8_back {l : Launch} {D : va_G} {tc : Nat → ClassId} {Z : (Nat → Nat) × (Nat → Nat)} {ad_t ad_c ad_s ad_d ad_z : Nat → Nat} {ad_pp ad_qq : Nat → Nat → Nat} {v_t v_c v_s v_d v_z : OV} {v_pp v_qq : Nat → OV} {k : Int32} (hk0 : ¬ k < 0) (hk1 : k < 4) (hin : vp_in k 4) (e_t_6 : ad_t (6 + 1) = ad_c 0) (e_c_3 : ad_c (3 + 1) = ad_s 0) (e_d_3 : ad_d (3 + 1) = ad_z 0) (p_c_4 : ∀ i, i < 20 → kn_q ad_c 4 i = some (ad_pp i 0)) (p_d_4 : ∀ i, i < 20 → kn_q ad_d 4 i = some (ad_qq i 0)) (hq : kn_q ad_t 7 k.toNatClampNeg = some (ad_d 0)) {post : Int32 → OV → OV → (Nat → OV) → Prop} (h : PX8_back v_c v_s v_d v_z v_pp v_qq post) : CTi l D tc Z yX8_back (Cond.code yX8_back cX8_back 2 (some .int) :: kn_all) rmX8_back 0 0 [.ref (ad_t 0), .int k] (List.flatten [[(kTin, ad_t, v_t)], [(kScene, ad_c, v_c)], [(kState, ad_s, v_s)], [(kScene, ad_d, v_d)], [(kState, ad_z, v_z)], kn_pool kState 20 ad_pp v_pp, kn_pool kState 20 ad_qq v_qq]) (fun (u : OV × OV × (Nat → OV)) => List.flatten [[(kTin, ad_t, v_t)], [(kScene, kn_up ad_c 0 (ad_d (0 + 1)), u.1)], [(kState, ad_s, u.2.1)], [(kScene, ad_d, v_d)], [(kState, ad_z, v_z)], kn_pool kState 20 ad_pp u.2.2, kn_pool kState 20 ad_qq v_qq]) (fun (r : Int32) (u : OV × OV × (Nat → OV)) => post r u.1 u.2.1 u.2.2) := by
  refine kn_ofi (cc := cX8_back) (nL := 2) (ret := (some .int)) (lv := [(0, .ref (ad_t 0)), (1, .int k)]) (by decide) (Nat.le_of_ble_eq_true rfl) rfl (fun p e s m below meth c ls X I hl _ => ?_)
  obtain ⟨S0, hr, hlocks, hK, hZ, hA⟩ := id X
  obtain ⟨hx, hb, hml, hown, hts⟩ := id S0
  unfold PX8_back at h
  refine lv_iload_n hx hb (kn_dec tX8_back 0 rfl) rfl (lv_at hl 1 rfl) ?_
  refine lv_if_lt (tgt := 18) hx hb (kn_dec tX8_back 1 rfl) (by decide) (fun c1 => absurd c1 hk0) (fun c1 => ?_)
  refine lv_iload_n hx hb (kn_dec tX8_back 2 rfl) rfl (lv_at hl 1 rfl) ?_
  refine lv_iconst (v := (4)) hx hb (kn_dec tX8_back 3 rfl) (by decide) ?_
  refine lv_icmp_ge (tgt := 18) hx hb (kn_dec tX8_back 4 rfl) (by decide) (fun c2 => absurd hk1 (Int32.not_lt.mpr c2)) (fun c2 => ?_)
  refine lv_aload_n hx hb (kn_dec tX8_back 5 rfl) rfl (lv_at hl 0 rfl) ?_
  refine kw_getl hx hb hts inX8 hown hK I 0 rfl rfl 7 (by decide) rfl (hts _ q2_106) (kn_dec tX8_back 6 rfl) rfl ?_
  refine lv_iload_n hx hb (kn_dec tX8_back 7 rfl) rfl (lv_at hl 1 rfl) ?_
  refine kw_qald hx hb hK I 0 rfl 7 1 4 (List.mem_of_getElem? (i := 2) rfl) rfl hin (kn_dec tX8_back 8 rfl) hq ?_
  refine lv_ifnonnull (tgt := 20) hx hb (kn_dec tX8_back 9 rfl) (by decide) ?_
  refine lv_aload_n hx hb (kn_dec tX8_back 12 rfl) rfl (lv_at hl 0 rfl) ?_
  refine kw_getl hx hb hts inX8 hown hK I 0 rfl rfl 6 (by decide) rfl (hts _ q2_105) (kn_dec tX8_back 13 rfl) e_t_6 ?_
  refine lv_aload_n hx hb (kn_dec tX8_back 14 rfl) rfl (lv_at hl 0 rfl) ?_
  refine kw_getl hx hb hts inX8 hown hK I 0 rfl rfl 7 (by decide) rfl (hts _ q2_106) (kn_dec tX8_back 15 rfl) rfl ?_
  refine lv_iload_n hx hb (kn_dec tX8_back 16 rfl) rfl (lv_at hl 1 rfl) ?_
  refine kw_qald hx hb hK I 0 rfl 7 1 4 (List.mem_of_getElem? (i := 2) rfl) rfl hin (kn_dec tX8_back 17 rfl) hq ?_
  have I : kn_I D tc (kn_A _ s.heap.size) s.heap (List.flatten [[(kScene, ad_c, v_c)], [(kState, ad_s, v_s)], [(kScene, ad_d, v_d)], [(kState, ad_z, v_z)], kn_pool kState 20 ad_pp v_pp, kn_pool kState 20 ad_qq v_qq] ++ List.flatten [[(kTin, ad_t, v_t)]]) _ _ := I.perm (kn_segA (segs := [[(kTin, ad_t, v_t)], [(kScene, ad_c, v_c)], [(kState, ad_s, v_s)], [(kScene, ad_d, v_d)], [(kState, ad_z, v_z)], kn_pool kState 20 ad_pp v_pp, kn_pool kState 20 ad_qq v_qq]) (sC := [[(kScene, ad_c, v_c)], [(kState, ad_s, v_s)], [(kScene, ad_d, v_d)], [(kState, ad_z, v_z)], kn_pool kState 20 ad_pp v_pp, kn_pool kState 20 ad_qq v_qq]) (sR := [[(kTin, ad_t, v_t)]]) [1, 2, 3, 4, 5, 6, 0] rfl rfl)
  refine kw_callv (wc := List.flatten [[(kScene, ad_c, v_c)], [(kState, ad_s, v_s)], [(kScene, ad_d, v_d)], [(kState, ad_z, v_z)], kn_pool kState 20 ad_pp v_pp, kn_pool kState 20 ad_qq v_qq]) (wr := List.flatten [[(kTin, ad_t, v_t)]]) I hA (kn_pl1 _ _) (kn_pl2 _ _) (kn_pl1_ok _ _) (kn_pl2_ok _ _) (kn_pl2_nd _ _) (kn_pl_dis _ _) (kn_runV (As := [.ref (ad_d 0)]) S0 hK hZ hA I ((ctX5_copy e_c_3 e_d_3 p_c_4 p_d_4 h).met _) (kn_cwV 1 hts q4_186 q4_187 q4_188 q1_6 q4_189 rfl rfl (by decide +kernel) ⟨(Nat.le_of_ble_eq_true rfl), (Nat.le_of_ble_eq_true rfl)⟩) (kn_pl1 _ _) (kn_pl1_ok _ _) (kn_pl1_nd _ _) 0 rfl rfl rfl rfl hl.1 rfl (Nat.le_of_ble_eq_true rfl) (kn_dec tX8_back 18 rfl) ⟨(Nat.le_of_ble_eq_true rfl), (Nat.le_of_ble_eq_true rfl)⟩) (fun u H locs h I => ?_)
  have I : kn_I D tc (kn_A _ s.heap.size) s.heap (List.flatten [[(kTin, ad_t, v_t)], [(kScene, (kn_up ad_c 0 (ad_d (0 + 1))), u.1)], [(kState, ad_s, u.2.1)], [(kScene, ad_d, v_d)], [(kState, ad_z, v_z)], kn_pool kState 20 ad_pp u.2.2, kn_pool kState 20 ad_qq v_qq]) _ _ := I.perm (kn_segB (sC := [[(kTin, ad_t, v_t)]]) (sR := [[(kScene, (kn_up ad_c 0 (ad_d (0 + 1))), u.1)], [(kState, ad_s, u.2.1)], [(kScene, ad_d, v_d)], [(kState, ad_z, v_z)], kn_pool kState 20 ad_pp u.2.2, kn_pool kState 20 ad_qq v_qq]) (segs := [[(kTin, ad_t, v_t)], [(kScene, (kn_up ad_c 0 (ad_d (0 + 1))), u.1)], [(kState, ad_s, u.2.1)], [(kScene, ad_d, v_d)], [(kState, ad_z, v_z)], kn_pool kState 20 ad_pp u.2.2, kn_pool kState 20 ad_qq v_qq]) [0, 1, 2, 3, 4, 5, 6] rfl rfl)
  refine lv_aload_n hx hb (kn_dec tX8_back 19 rfl) rfl (lv_at hl 0 rfl) ?_
  refine kw_getl hx hb hts inX8 hown hK I 0 rfl rfl 6 (by decide) rfl (hts _ q2_105) (kn_dec tX8_back 20 rfl) e_t_6 ?_
  refine kw_getl (ad := kn_up ad_c 0 (ad_d (0 + 1))) hx hb hts inX5 hown hK I 1 rfl rfl 3 (by decide) rfl (hts _ q2_34) (kn_dec tX8_back 21 rfl) e_c_3 ?_
  refine kw_geti hx hb hts inX6 hown hK I 2 rfl rfl 0 (by decide) rfl (hts _ q1_221) (kn_dec tX8_back 22 rfl) ?_
  exact kw_iret hx hb hr hlocks I u rfl h (kn_dec tX8_back 23 rfl)

abbrev rmX8_image_old : Room := { frames := 4, cells := 0, slots := 0, locals := 300 }
set_option maxRecDepth 100000 in
set_option maxHeartbeats 4000000 in
theorem ctX8_image_old {l : Launch} {D : va_G} {tc : Nat → ClassId} {Z : (Nat → Nat) × (Nat → Nat)} {ad_t ad_c ad_s ad_d ad_z : Nat → Nat} {ad_pp ad_qq : Nat → Nat → Nat} {v_t v_c v_s v_d v_z : OV} {v_pp v_qq : Nat → OV} {k : Int32} (hk0 : ¬ k < 0) (hk1 : k < 4) (hin : vp_in k 4) (e_t_6 : ad_t (6 + 1) = ad_c 0) (e_c_3 : ad_c (3 + 1) = ad_s 0) (e_d_3 : ad_d (3 + 1) = ad_z 0) (p_c_4 : ∀ i, i < 20 → kn_q ad_c 4 i = some (ad_pp i 0)) (p_d_4 : ∀ i, i < 20 → kn_q ad_d 4 i = some (ad_qq i 0)) (hq : kn_q ad_t 7 k.toNatClampNeg = some (ad_d 0)) {post : OV → OV → (Nat → OV) → Prop} (h : PX5_copy v_d v_z v_c v_s v_qq v_pp post) : CTi l D tc Z yX8_image (Cond.code yX8_image cX8_image 2 (some .int) :: kn_all) rmX8_image_old 0 0 [.ref (ad_t 0), .int k] (List.flatten [[(kTin, ad_t, v_t)], [(kScene, ad_c, v_c)], [(kState, ad_s, v_s)], [(kScene, ad_d, v_d)], [(kState, ad_z, v_z)], kn_pool kState 20 ad_pp v_pp, kn_pool kState 20 ad_qq v_qq]) (fun (u : OV × OV × (Nat → OV)) => List.flatten [[(kTin, ad_t, v_t)], [(kScene, ad_c, v_c)], [(kState, ad_s, v_s)], [(kScene, kn_up ad_d 0 (ad_c (0 + 1)), u.1)], [(kState, ad_z, u.2.1)], kn_pool kState 20 ad_pp v_pp, kn_pool kState 20 ad_qq u.2.2]) (fun (r : Int32) (u : OV × OV × (Nat → OV)) => r = v_s.1 0 ∧ post u.1 u.2.1 u.2.2) := by
  refine kn_ofi (cc := cX8_image) (nL := 2) (ret := (some .int)) (lv := [(0, .ref (ad_t 0)), (1, .int k)]) (by decide) (Nat.le_of_ble_eq_true rfl) rfl (fun p e s m below meth c ls X I hl _ => ?_)
  obtain ⟨S0, hr, hlocks, hK, hZ, hA⟩ := id X
  obtain ⟨hx, hb, hml, hown, hts⟩ := id S0
  refine lv_iload_n hx hb (kn_dec tX8_image 0 rfl) rfl (lv_at hl 1 rfl) ?_
  refine lv_if_lt (tgt := 9) hx hb (kn_dec tX8_image 1 rfl) (by decide) (fun c1 => absurd c1 hk0) (fun c1 => ?_)
  refine lv_iload_n hx hb (kn_dec tX8_image 2 rfl) rfl (lv_at hl 1 rfl) ?_
  refine lv_iconst (v := (4)) hx hb (kn_dec tX8_image 3 rfl) (by decide) ?_
  refine lv_icmp_lt (tgt := 11) hx hb (kn_dec tX8_image 4 rfl) (by decide) (fun c2 => ?_) (fun c2 => absurd hk1 c2)
  refine lv_aload_n hx hb (kn_dec tX8_image 7 rfl) rfl (lv_at hl 0 rfl) ?_
  refine kw_getl hx hb hts inX8 hown hK I 0 rfl rfl 7 (by decide) rfl (hts _ q2_106) (kn_dec tX8_image 8 rfl) rfl ?_
  refine lv_iload_n hx hb (kn_dec tX8_image 9 rfl) rfl (lv_at hl 1 rfl) ?_
  refine kw_qald hx hb hK I 0 rfl 7 1 4 (List.mem_of_getElem? (i := 2) rfl) rfl hin (kn_dec tX8_image 10 rfl) hq ?_
  refine lv_ifnonnull (tgt := 33) hx hb (kn_dec tX8_image 11 rfl) (by decide) ?_
  refine lv_aload_n hx hb (kn_dec tX8_image 19 rfl) rfl (lv_at hl 0 rfl) ?_
  refine kw_getl hx hb hts inX8 hown hK I 0 rfl rfl 7 (by decide) rfl (hts _ q2_106) (kn_dec tX8_image 20 rfl) rfl ?_
  refine lv_iload_n hx hb (kn_dec tX8_image 21 rfl) rfl (lv_at hl 1 rfl) ?_
  refine kw_qald hx hb hK I 0 rfl 7 1 4 (List.mem_of_getElem? (i := 2) rfl) rfl hin (kn_dec tX8_image 22 rfl) hq ?_
  refine lv_aload_n hx hb (kn_dec tX8_image 23 rfl) rfl (lv_at hl 0 rfl) ?_
  refine kw_getl hx hb hts inX8 hown hK I 0 rfl rfl 6 (by decide) rfl (hts _ q2_105) (kn_dec tX8_image 24 rfl) e_t_6 ?_
  have I : kn_I D tc (kn_A _ s.heap.size) s.heap (List.flatten [[(kScene, ad_d, v_d)], [(kState, ad_z, v_z)], [(kScene, ad_c, v_c)], [(kState, ad_s, v_s)], kn_pool kState 20 ad_qq v_qq, kn_pool kState 20 ad_pp v_pp] ++ List.flatten [[(kTin, ad_t, v_t)]]) _ _ := I.perm (kn_segA (segs := [[(kTin, ad_t, v_t)], [(kScene, ad_c, v_c)], [(kState, ad_s, v_s)], [(kScene, ad_d, v_d)], [(kState, ad_z, v_z)], kn_pool kState 20 ad_pp v_pp, kn_pool kState 20 ad_qq v_qq]) (sC := [[(kScene, ad_d, v_d)], [(kState, ad_z, v_z)], [(kScene, ad_c, v_c)], [(kState, ad_s, v_s)], kn_pool kState 20 ad_qq v_qq, kn_pool kState 20 ad_pp v_pp]) (sR := [[(kTin, ad_t, v_t)]]) [3, 4, 1, 2, 6, 5, 0] rfl rfl)
  refine kw_callv (wc := List.flatten [[(kScene, ad_d, v_d)], [(kState, ad_z, v_z)], [(kScene, ad_c, v_c)], [(kState, ad_s, v_s)], kn_pool kState 20 ad_qq v_qq, kn_pool kState 20 ad_pp v_pp]) (wr := List.flatten [[(kTin, ad_t, v_t)]]) I hA (kn_pl1 _ _) (kn_pl2 _ _) (kn_pl1_ok _ _) (kn_pl2_ok _ _) (kn_pl2_nd _ _) (kn_pl_dis _ _) (kn_runV (As := [.ref (ad_c 0)]) S0 hK hZ hA I ((ctX5_copy e_d_3 e_c_3 p_d_4 p_c_4 h).met _) (kn_cwV 1 hts q4_186 q4_187 q4_188 q1_6 q4_189 rfl rfl (by decide +kernel) ⟨(Nat.le_of_ble_eq_true rfl), (Nat.le_of_ble_eq_true rfl)⟩) (kn_pl1 _ _) (kn_pl1_ok _ _) (kn_pl1_nd _ _) 0 rfl rfl rfl rfl hl.1 rfl (Nat.le_of_ble_eq_true rfl) (kn_dec tX8_image 25 rfl) ⟨(Nat.le_of_ble_eq_true rfl), (Nat.le_of_ble_eq_true rfl)⟩) (fun u H locs h I => ?_)
  have I : kn_I D tc (kn_A _ s.heap.size) s.heap (List.flatten [[(kTin, ad_t, v_t)], [(kScene, ad_c, v_c)], [(kState, ad_s, v_s)], [(kScene, (kn_up ad_d 0 (ad_c (0 + 1))), u.1)], [(kState, ad_z, u.2.1)], kn_pool kState 20 ad_pp v_pp, kn_pool kState 20 ad_qq u.2.2]) _ _ := I.perm (kn_segB (sC := [[(kTin, ad_t, v_t)]]) (sR := [[(kScene, (kn_up ad_d 0 (ad_c (0 + 1))), u.1)], [(kState, ad_z, u.2.1)], [(kScene, ad_c, v_c)], [(kState, ad_s, v_s)], kn_pool kState 20 ad_qq u.2.2, kn_pool kState 20 ad_pp v_pp]) (segs := [[(kTin, ad_t, v_t)], [(kScene, ad_c, v_c)], [(kState, ad_s, v_s)], [(kScene, (kn_up ad_d 0 (ad_c (0 + 1))), u.1)], [(kState, ad_z, u.2.1)], kn_pool kState 20 ad_pp v_pp, kn_pool kState 20 ad_qq u.2.2]) [0, 3, 4, 1, 2, 6, 5] rfl rfl)
  refine lv_aload_n hx hb (kn_dec tX8_image 26 rfl) rfl (lv_at hl 0 rfl) ?_
  refine kw_getl hx hb hts inX8 hown hK I 0 rfl rfl 6 (by decide) rfl (hts _ q2_105) (kn_dec tX8_image 27 rfl) e_t_6 ?_
  refine kw_getl hx hb hts inX5 hown hK I 1 rfl rfl 3 (by decide) rfl (hts _ q2_34) (kn_dec tX8_image 28 rfl) e_c_3 ?_
  refine kw_geti hx hb hts inX6 hown hK I 2 rfl rfl 0 (by decide) rfl (hts _ q1_221) (kn_dec tX8_image 29 rfl) ?_
  exact kw_iret hx hb hr hlocks I u rfl ⟨rfl, h⟩ (kn_dec tX8_image 30 rfl)

abbrev rmX8_image_new : Room := { frames := 5, cells := 161, slots := 989, locals := 300 }
set_option maxRecDepth 100000 in
set_option maxHeartbeats 4000000 in
theorem ctX8_image_new {l : Launch} {D : va_G} {tc : Nat → ClassId} {Z : (Nat → Nat) × (Nat → Nat)} {ad_t ad_c ad_s : Nat → Nat} {ad_pp : Nat → Nat → Nat} {v_t v_c v_s : OV} {v_pp : Nat → OV} {k : Int32} (hk0 : ¬ k < 0) (hk1 : k < 4) (hin : vp_in k 4) (e_t_6 : ad_t (6 + 1) = ad_c 0) (e_c_3 : ad_c (3 + 1) = ad_s 0) (p_c_4 : ∀ i, i < 20 → kn_q ad_c 4 i = some (ad_pp i 0)) (hq0 : kn_q ad_t 7 k.toNatClampNeg = none) {post : OV → OV → (Nat → OV) → Prop} (h : PX5_copy v0X5 v0X6 v_c v_s (fun _ => v0X6) v_pp post) : CTi l D tc Z yX8_image (Cond.code yX8_image cX8_image 2 (some .int) :: kn_all) rmX8_image_new 161 989 [.ref (ad_t 0), .int k] (List.flatten [[(kTin, ad_t, v_t)], [(kScene, ad_c, v_c)], [(kState, ad_s, v_s)], kn_pool kState 20 ad_pp v_pp]) (fun (u : (Nat → Nat) × (Nat → Nat) × (Nat → Nat → Nat) × OV × OV × (Nat → OV)) => List.flatten [[(kTin, kn_uq ad_t 7 k.toNatClampNeg (u.1 0), v_t)], [(kScene, ad_c, v_c)], [(kState, ad_s, v_s)], [(kScene, kn_up u.1 0 (ad_c (0 + 1)), u.2.2.2.1)], [(kState, u.2.1, u.2.2.2.2.1)], kn_pool kState 20 ad_pp v_pp, kn_pool kState 20 u.2.2.1 u.2.2.2.2.2]) (fun (r : Int32) (u : (Nat → Nat) × (Nat → Nat) × (Nat → Nat → Nat) × OV × OV × (Nat → OV)) => r = v_s.1 0 ∧ u.1 (3 + 1) = u.2.1 0 ∧ (∀ i, i < 20 → kn_q u.1 4 i = some (u.2.2.1 i 0)) ∧ post u.2.2.2.1 u.2.2.2.2.1 u.2.2.2.2.2) := by
  refine kn_ofi (cc := cX8_image) (nL := 2) (ret := (some .int)) (lv := [(0, .ref (ad_t 0)), (1, .int k)]) (by decide) (Nat.le_of_ble_eq_true rfl) rfl (fun p e s m below meth c ls X I hl _ => ?_)
  obtain ⟨S0, hr, hlocks, hK, hZ, hA⟩ := id X
  obtain ⟨hx, hb, hml, hown, hts⟩ := id S0
  refine lv_iload_n hx hb (kn_dec tX8_image 0 rfl) rfl (lv_at hl 1 rfl) ?_
  refine lv_if_lt (tgt := 9) hx hb (kn_dec tX8_image 1 rfl) (by decide) (fun c1 => absurd c1 hk0) (fun c1 => ?_)
  refine lv_iload_n hx hb (kn_dec tX8_image 2 rfl) rfl (lv_at hl 1 rfl) ?_
  refine lv_iconst (v := (4)) hx hb (kn_dec tX8_image 3 rfl) (by decide) ?_
  refine lv_icmp_lt (tgt := 11) hx hb (kn_dec tX8_image 4 rfl) (by decide) (fun c2 => ?_) (fun c2 => absurd hk1 c2)
  refine lv_aload_n hx hb (kn_dec tX8_image 7 rfl) rfl (lv_at hl 0 rfl) ?_
  refine kw_getl hx hb hts inX8 hown hK I 0 rfl rfl 7 (by decide) rfl (hts _ q2_106) (kn_dec tX8_image 8 rfl) rfl ?_
  refine lv_iload_n hx hb (kn_dec tX8_image 9 rfl) rfl (lv_at hl 1 rfl) ?_
  refine kw_qald hx hb hK I 0 rfl 7 1 4 (List.mem_of_getElem? (i := 2) rfl) rfl hin (kn_dec tX8_image 10 rfl) hq0 ?_
  refine lv_ifnonnullN hx hb (kn_dec tX8_image 11 rfl) ?_
  refine lv_aload_n hx hb (kn_dec tX8_image 12 rfl) rfl (lv_at hl 0 rfl) ?_
  refine kw_getl hx hb hts inX8 hown hK I 0 rfl rfl 7 (by decide) rfl (hts _ q2_106) (kn_dec tX8_image 13 rfl) rfl ?_
  refine lv_iload_n hx hb (kn_dec tX8_image 14 rfl) rfl (lv_at hl 1 rfl) ?_
  refine kw_new (ci := 5) (fl := [2, 0, 0, 2, 2, 0, 0, 0, 2, 2]) S0 hK hA I inX5 tyX5 tyX5_ok q1_106 q1_107 q1_6 rfl dflX5 (Nat.le_of_ble_eq_true rfl) (Nat.le_of_ble_eq_true rfl) (kn_dec tX8_image 15 rfl) (fun q25 H I => ?_)
  refine lv_dup hx hb (kn_dec tX8_image 16 rfl) rfl ?_
  refine kw_init S0 hK hZ hA I ctX5_init q1_108 q1_6 q1_110 q1_109 rfl rfl (by decide +kernel) rfl ⟨(Nat.le_of_ble_eq_true rfl), (Nat.le_of_ble_eq_true rfl)⟩ hl.1 (Nat.le_of_ble_eq_true rfl) (kn_dec tX8_image 17 rfl) ⟨(Nat.le_of_ble_eq_true rfl), (Nat.le_of_ble_eq_true rfl)⟩ (fun u9 H locs hp9 I => ?_)
  obtain ⟨ad_d, ad_h, ad_z, ad_qq⟩ := u9
  obtain ⟨e0, -, e_d_3, p_d_4⟩ := hp9
  have e0 : ad_d 0 = q25 := e0
  have e_d_3 : ad_d (3 + 1) = ad_z 0 := e_d_3
  have p_d_4 : ∀ i, i < 20 → kn_q ad_d 4 i = some (ad_qq i 0) := p_d_4
  rw [← e0]
  have I := kn_conv (w' := List.flatten [[(kTin, ad_t, v_t)], [(kScene, ad_c, v_c)], [(kState, ad_s, v_s)], kn_pool kState 20 ad_pp v_pp, [(kScene, ad_d, v0X5)], [(kHill, ad_h, v0X0)], [(kState, ad_z, v0X6)], kn_pool kState 20 ad_qq (fun _ => v0X6)]) I (congrArg (kn_flat tc) (by simp only [List.flatten_cons, List.flatten_nil, List.append_nil, List.append_assoc, List.cons_append, List.nil_append]))
  have I : kn_I D tc (kn_A _ s.heap.size) s.heap (List.flatten [[(kTin, ad_t, v_t)], [(kScene, ad_c, v_c)], [(kState, ad_s, v_s)], [(kScene, ad_d, v0X5)], [(kState, ad_z, v0X6)], kn_pool kState 20 ad_pp v_pp, kn_pool kState 20 ad_qq (fun _ => v0X6)] ++ List.flatten [[(kHill, ad_h, v0X0)]]) _ _ := I.perm (kn_segA (sC := [[(kTin, ad_t, v_t)], [(kScene, ad_c, v_c)], [(kState, ad_s, v_s)], [(kScene, ad_d, v0X5)], [(kState, ad_z, v0X6)], kn_pool kState 20 ad_pp v_pp, kn_pool kState 20 ad_qq (fun _ => v0X6)]) (sR := [[(kHill, ad_h, v0X0)]]) [0, 1, 2, 4, 6, 3, 7, 5] rfl rfl)
  have I := I.sub (w' := List.flatten [[(kTin, ad_t, v_t)], [(kScene, ad_c, v_c)], [(kState, ad_s, v_s)], [(kScene, ad_d, v0X5)], [(kState, ad_z, v0X6)], kn_pool kState 20 ad_pp v_pp, kn_pool kState 20 ad_qq (fun _ => v0X6)]) (kn_pl1 _ _) (kn_pl1_nd _ _) (kn_pl1_ok _ _)
  refine kw_qast (ad := ad_t) (adj := ad_d) hx hb hK I 0 rfl kTin_sm 7 1 4 (List.mem_of_getElem? (i := 2) rfl) ukTin_7 (r := (RX5, TX5, 10)) rfl 3 rfl rfl hin (kn_dec tX8_image 18 rfl) (fun H locs I => ?_)
  have I : kn_I D tc (kn_A _ s.heap.size) s.heap (List.flatten [[(kTin, kn_uq ad_t 7 k.toNatClampNeg (ad_d 0), v_t)], [(kScene, ad_c, v_c)], [(kState, ad_s, v_s)], [(kScene, ad_d, v0X5)], [(kState, ad_z, v0X6)], kn_pool kState 20 ad_pp v_pp, kn_pool kState 20 ad_qq (fun _ => v0X6)]) _ _ := I
  have et0 : kn_uq ad_t 7 k.toNatClampNeg (ad_d 0) 0 = ad_t 0 := kn_uq_low (by decide)
  rw [← et0] at hl ⊢
  have e_t_6 : kn_uq ad_t 7 k.toNatClampNeg (ad_d 0) (6 + 1) = ad_c 0 := (kn_uq_low (by decide)).trans e_t_6
  have hq : kn_q (kn_uq ad_t 7 k.toNatClampNeg (ad_d 0)) 7 k.toNatClampNeg = some (ad_d 0) := by
    rw [kn_uq_q]
    exact if_pos rfl
  clear hq0
  obtain ⟨v_d, ed⟩ : ∃ v, v = v0X5 := ⟨_, rfl⟩
  obtain ⟨v_z, ez⟩ : ∃ v, v = v0X6 := ⟨_, rfl⟩
  obtain ⟨v_qq, eq⟩ : ∃ v : Nat → OV, v = (fun _ => v0X6) := ⟨_, rfl⟩
  rw [← ed, ← eq, ← ez] at I h
  refine lv_aload_n hx hb (kn_dec tX8_image 19 rfl) rfl (lv_at hl 0 rfl) ?_
  refine kw_getl (ad := kn_uq ad_t 7 k.toNatClampNeg (ad_d 0)) hx hb hts inX8 hown hK I 0 rfl rfl 7 (by decide) rfl (hts _ q2_106) (kn_dec tX8_image 20 rfl) rfl ?_
  refine lv_iload_n hx hb (kn_dec tX8_image 21 rfl) rfl (lv_at hl 1 rfl) ?_
  refine kw_qald (ad := kn_uq ad_t 7 k.toNatClampNeg (ad_d 0)) hx hb hK I 0 rfl 7 1 4 (List.mem_of_getElem? (i := 2) rfl) rfl hin (kn_dec tX8_image 22 rfl) hq ?_
  refine lv_aload_n hx hb (kn_dec tX8_image 23 rfl) rfl (lv_at hl 0 rfl) ?_
  refine kw_getl (ad := kn_uq ad_t 7 k.toNatClampNeg (ad_d 0)) hx hb hts inX8 hown hK I 0 rfl rfl 6 (by decide) rfl (hts _ q2_105) (kn_dec tX8_image 24 rfl) e_t_6 ?_
  have I : kn_I D tc (kn_A _ s.heap.size) s.heap (List.flatten [[(kScene, ad_d, v_d)], [(kState, ad_z, v_z)], [(kScene, ad_c, v_c)], [(kState, ad_s, v_s)], kn_pool kState 20 ad_qq v_qq, kn_pool kState 20 ad_pp v_pp] ++ List.flatten [[(kTin, kn_uq ad_t 7 k.toNatClampNeg (ad_d 0), v_t)]]) _ _ := I.perm (kn_segA (segs := [[(kTin, kn_uq ad_t 7 k.toNatClampNeg (ad_d 0), v_t)], [(kScene, ad_c, v_c)], [(kState, ad_s, v_s)], [(kScene, ad_d, v_d)], [(kState, ad_z, v_z)], kn_pool kState 20 ad_pp v_pp, kn_pool kState 20 ad_qq v_qq]) (sC := [[(kScene, ad_d, v_d)], [(kState, ad_z, v_z)], [(kScene, ad_c, v_c)], [(kState, ad_s, v_s)], kn_pool kState 20 ad_qq v_qq, kn_pool kState 20 ad_pp v_pp]) (sR := [[(kTin, kn_uq ad_t 7 k.toNatClampNeg (ad_d 0), v_t)]]) [3, 4, 1, 2, 6, 5, 0] rfl rfl)
  refine kw_callv (wc := List.flatten [[(kScene, ad_d, v_d)], [(kState, ad_z, v_z)], [(kScene, ad_c, v_c)], [(kState, ad_s, v_s)], kn_pool kState 20 ad_qq v_qq, kn_pool kState 20 ad_pp v_pp]) (wr := List.flatten [[(kTin, kn_uq ad_t 7 k.toNatClampNeg (ad_d 0), v_t)]]) I hA (kn_pl1 _ _) (kn_pl2 _ _) (kn_pl1_ok _ _) (kn_pl2_ok _ _) (kn_pl2_nd _ _) (kn_pl_dis _ _) (kn_runV (As := [.ref (ad_c 0)]) S0 hK hZ hA I ((ctX5_copy e_d_3 e_c_3 p_d_4 p_c_4 h).met _) (kn_cwV 1 hts q4_186 q4_187 q4_188 q1_6 q4_189 rfl rfl (by decide +kernel) ⟨(Nat.le_of_ble_eq_true rfl), (Nat.le_of_ble_eq_true rfl)⟩) (kn_pl1 _ _) (kn_pl1_ok _ _) (kn_pl1_nd _ _) 0 rfl rfl rfl rfl hl.1 rfl (Nat.le_of_ble_eq_true rfl) (kn_dec tX8_image 25 rfl) ⟨(Nat.le_of_ble_eq_true rfl), (Nat.le_of_ble_eq_true rfl)⟩) (fun u H locs h I => ?_)
  have I : kn_I D tc (kn_A _ s.heap.size) s.heap (List.flatten [[(kTin, kn_uq ad_t 7 k.toNatClampNeg (ad_d 0), v_t)], [(kScene, ad_c, v_c)], [(kState, ad_s, v_s)], [(kScene, (kn_up ad_d 0 (ad_c (0 + 1))), u.1)], [(kState, ad_z, u.2.1)], kn_pool kState 20 ad_pp v_pp, kn_pool kState 20 ad_qq u.2.2]) _ _ := I.perm (kn_segB (sC := [[(kTin, kn_uq ad_t 7 k.toNatClampNeg (ad_d 0), v_t)]]) (sR := [[(kScene, (kn_up ad_d 0 (ad_c (0 + 1))), u.1)], [(kState, ad_z, u.2.1)], [(kScene, ad_c, v_c)], [(kState, ad_s, v_s)], kn_pool kState 20 ad_qq u.2.2, kn_pool kState 20 ad_pp v_pp]) (segs := [[(kTin, kn_uq ad_t 7 k.toNatClampNeg (ad_d 0), v_t)], [(kScene, ad_c, v_c)], [(kState, ad_s, v_s)], [(kScene, (kn_up ad_d 0 (ad_c (0 + 1))), u.1)], [(kState, ad_z, u.2.1)], kn_pool kState 20 ad_pp v_pp, kn_pool kState 20 ad_qq u.2.2]) [0, 3, 4, 1, 2, 6, 5] rfl rfl)
  refine lv_aload_n hx hb (kn_dec tX8_image 26 rfl) rfl (lv_at hl 0 rfl) ?_
  refine kw_getl (ad := kn_uq ad_t 7 k.toNatClampNeg (ad_d 0)) hx hb hts inX8 hown hK I 0 rfl rfl 6 (by decide) rfl (hts _ q2_105) (kn_dec tX8_image 27 rfl) e_t_6 ?_
  refine kw_getl hx hb hts inX5 hown hK I 1 rfl rfl 3 (by decide) rfl (hts _ q2_34) (kn_dec tX8_image 28 rfl) e_c_3 ?_
  refine kw_geti hx hb hts inX6 hown hK I 2 rfl rfl 0 (by decide) rfl (hts _ q1_221) (kn_dec tX8_image 29 rfl) ?_
  exact kw_iret hx hb hr hlocks I (ad_d, ad_z, ad_qq, u.1, u.2.1, u.2.2) rfl ⟨rfl, e_d_3, p_d_4, h⟩ (kn_dec tX8_image 30 rfl)
