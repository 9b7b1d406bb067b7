section
variable {p : Program} {l : Launch} {e : Env} {s : State} {m : MethodId} {args : Array Value} {below : List Frame} {meth : Method} {c : Code} {D : va_G} {tc : Nat → ClassId} {Z : (Nat → Nat) × (Nat → Nat)} {w0 : List CH}

/-! X8_day -/
abbrev rmX8_day : Room := { frames := 6, cells := 0, slots := 0, locals := 167 }
def PX8_day  (v_t : OV) (v_c : OV) (v_h : OV) (v_s : OV) (v_w : OV) (v_pp : (Nat → OV)) (v_pr : (Nat → OV)) (gn_pr : Nat) (post : Int32 → OV → OV → OV → (Nat → OV) → (Nat → OV) → Prop) : Prop := (((v_h.1 0) = ((0 : Int32)) → post ((-1 : Int32)) v_c v_s v_w v_pp v_pr) ∧ (¬ (v_h.1 0) = ((0 : Int32)) → (((v_s.1 0) < ((999 : Int32)) → (PX5_remember v_c v_s v_pp (fun v_c3 v_pp4 => (PX8_ruleInForce v_t v_c3 v_pr gn_pr (fun r6 => ((r6 = none → (PX7_pass_N v_w v_h v_s ((0 : Int32)) (fun r11 v_w9 v_s10 => post r11 v_c3 v_s10 v_w9 v_pp4 v_pr))) ∧ (∀ i8 : Nat, r6 = some i8 → (PX7_pass_R v_w v_h (v_pr i8) v_s ((0 : Int32)) (fun r16 v_w13 v_pr14 v_s15 => post r16 v_c3 v_s15 v_w13 v_pp4 (va_up v_pr i8 v_pr14)))))))))) ∧ (¬ (v_s.1 0) < ((999 : Int32)) → post ((-1 : Int32)) v_c v_s v_w v_pp v_pr))))
set_option maxRecDepth 100000 in
set_option maxHeartbeats 1000000 in
theorem ctX8_day {l : Launch} {D : va_G} {tc : Nat → ClassId} {Z : (Nat → Nat) × (Nat → Nat)}  {ad_t : Nat → Nat} {ad_c : Nat → Nat} {ad_h : Nat → Nat} {ad_s : Nat → Nat} {ad_w : Nat → Nat} {ad_pp : Nat → Nat → Nat} {ad_pr : Nat → Nat → Nat} {v_t : OV} {v_c : OV} {v_h : OV} {v_s : OV} {v_w : OV} {v_pp : (Nat → OV)} {v_pr : (Nat → OV)} {gn_pr : Nat} (e_t_6 : ad_t (6 + 1) = ad_c 0) (e_c_0 : ad_c (0 + 1) = ad_h 0) (e_c_3 : ad_c (3 + 1) = ad_s 0) (e_t_8 : ad_t (8 + 1) = ad_w 0) (p_t_4 : ∀ i, i < gn_pr → kn_q ad_t 4 i = some (ad_pr i 0)) (p_c_4 : ∀ i, i < 20 → kn_q ad_c 4 i = some (ad_pp i 0))   {post : Int32 → OV → OV → OV → (Nat → OV) → (Nat → OV) → Prop} (h : PX8_day  v_t v_c v_h v_s v_w v_pp v_pr gn_pr post) : CTi l D tc Z yX8_day (Cond.code yX8_day cX8_day 1 (some .int) :: kn_all) rmX8_day 0 0 [.ref (ad_t 0)] (List.flatten [[(kTin, ad_t, v_t)], [(kScene, ad_c, v_c)], [(kHill, ad_h, v_h)], [(kState, ad_s, v_s)], [(kWalk, ad_w, v_w)], kn_pool kState 20 ad_pp v_pp, kn_pool kRule gn_pr ad_pr v_pr]) (fun (u : OV × OV × OV × (Nat → OV) × (Nat → OV)) => (List.flatten [[(kTin, ad_t, v_t)], [(kScene, ad_c, u.1)], [(kHill, ad_h, v_h)], [(kState, ad_s, u.2.1)], [(kWalk, ad_w, u.2.2.1)], kn_pool kState 20 ad_pp u.2.2.2.1, kn_pool kRule gn_pr ad_pr u.2.2.2.2])) (fun (r : Int32) (u : OV × OV × OV × (Nat → OV) × (Nat → OV)) => post r u.1 u.2.1 u.2.2.1 u.2.2.2.1 u.2.2.2.2) := by
  refine kn_ofi (cc := cX8_day) (nL := 1) (ret := (some .int)) (lv := [(0, .ref (ad_t 0))]) (by decide) (Nat.le_of_ble_eq_true rfl) rfl (fun p e s m below meth c ls X I hl _ => ?_)
  obtain ⟨S0, hr, hlocks, hK, hZ, hA⟩ := id X
  obtain ⟨hx, hb, hml, hown, hts⟩ := id S0
  unfold PX8_day at h
  refine lv_aload_n hx hb (kn_dec tX8_day 0 rfl) rfl (lv_at hl 0 rfl) ?_
  refine kw_getl hx hb hts inX8 hown hK I 0 rfl rfl 6 (by decide) rfl (hts _ q2_105) (kn_dec tX8_day 1 rfl) e_t_6 ?_
  refine kw_getl hx hb hts inX5 hown hK I 1 rfl rfl 0 (by decide) rfl (hts _ q2_28) (kn_dec tX8_day 2 rfl) e_c_0 ?_
  refine kw_geti hx hb hts inX0 hown hK I 2 rfl rfl 0 (by decide) rfl (hts _ q1_119) (kn_dec tX8_day 3 rfl) ?_
  refine lv_if_eq (tgt := 29) hx hb (kn_dec tX8_day 4 rfl) (by decide) (fun c1 => ?_) (fun c1 => ?_)
  · have h := h.1 c1
    refine lv_iconst (v := (-1)) hx hb (kn_dec tX8_day 11 rfl) (by decide) ?_
    exact kw_iret hx hb hr hlocks I (v_c, v_s, v_w, v_pp, v_pr) rfl h (kn_dec tX8_day 12 rfl)
  · have h := h.2 c1
    refine lv_aload_n hx hb (kn_dec tX8_day 5 rfl) rfl (lv_at hl 0 rfl) ?_
    refine kw_getl hx hb hts inX8 hown hK I 0 rfl rfl 6 (by decide) rfl (hts _ q2_105) (kn_dec tX8_day 6 rfl) e_t_6 ?_
    refine kw_getl hx hb hts inX5 hown hK I 1 rfl rfl 3 (by decide) rfl (hts _ q2_34) (kn_dec tX8_day 7 rfl) e_c_3 ?_
    refine kw_geti hx hb hts inX6 hown hK I 3 rfl rfl 0 (by decide) rfl (hts _ q1_221) (kn_dec tX8_day 8 rfl) ?_
    refine lv_sipush (v := (999)) hx hb (kn_dec tX8_day 9 rfl) (by decide) ?_
    refine lv_icmp_lt (tgt := 31) hx hb (kn_dec tX8_day 10 rfl) (by decide) (fun c2 => ?_) (fun c2 => ?_)
    · have h := h.1 c2
      refine lv_aload_n hx hb (kn_dec tX8_day 13 rfl) rfl (lv_at hl 0 rfl) ?_
      refine kw_getl hx hb hts inX8 hown hK I 0 rfl rfl 6 (by decide) rfl (hts _ q2_105) (kn_dec tX8_day 14 rfl) e_t_6 ?_
      have I : kn_I D tc (kn_A _ s.heap.size) s.heap ((List.flatten [[(kScene, ad_c, _)], [(kState, ad_s, _)], kn_pool kState 20 ad_pp _]) ++ (List.flatten [[(kTin, ad_t, _)], [(kHill, ad_h, _)], [(kWalk, ad_w, _)], kn_pool kRule gn_pr ad_pr _])) _ _ := I.perm (kn_segA (segs := [[(kTin, ad_t, _)], [(kScene, ad_c, _)], [(kHill, ad_h, _)], [(kState, ad_s, _)], [(kWalk, ad_w, _)], kn_pool kState 20 ad_pp _, kn_pool kRule gn_pr ad_pr _]) (sC := [[(kScene, ad_c, _)], [(kState, ad_s, _)], kn_pool kState 20 ad_pp _]) (sR := [[(kTin, ad_t, _)], [(kHill, ad_h, _)], [(kWalk, ad_w, _)], kn_pool kRule gn_pr ad_pr _]) [1, 3, 5, 0, 2, 4, 6] rfl rfl)
      refine kw_callv (wc := (List.flatten [[(kScene, ad_c, _)], [(kState, ad_s, _)], kn_pool kState 20 ad_pp _])) (wr := (List.flatten [[(kTin, ad_t, _)], [(kHill, ad_h, _)], [(kWalk, ad_w, _)], kn_pool kRule gn_pr ad_pr _])) I hA (kn_pl1 _ _) (kn_pl2 _ _) (kn_pl1_ok _ _) (kn_pl2_ok _ _) (kn_pl2_nd _ _) (kn_pl_dis _ _) (kn_runV (As := []) S0 hK hZ hA I ((ctX5_remember e_c_3 p_c_4 h).met _) (kn_cwV 0 hts q3_166 q3_167 q3_168 q1_6 q3_169 rfl rfl (by decide +kernel) ⟨(Nat.le_of_ble_eq_true rfl), (Nat.le_of_ble_eq_true rfl)⟩) (kn_pl1 _ _) (kn_pl1_ok _ _) (kn_pl1_nd _ _) 0 rfl rfl rfl rfl hl.1 rfl (Nat.le_of_ble_eq_true rfl) (kn_dec tX8_day 15 rfl) ⟨(Nat.le_of_ble_eq_true rfl), (Nat.le_of_ble_eq_true rfl)⟩) (fun u5 H locs h I => ?_)
      have I : kn_I D tc (kn_A _ s.heap.size) s.heap (List.flatten [[(kTin, ad_t, _)], [(kScene, ad_c, _)], [(kHill, ad_h, _)], [(kState, ad_s, _)], [(kWalk, ad_w, _)], kn_pool kState 20 ad_pp _, kn_pool kRule gn_pr ad_pr _]) _ _ := I.perm (kn_segB (sC := [[(kTin, ad_t, _)], [(kHill, ad_h, _)], [(kWalk, ad_w, _)], kn_pool kRule gn_pr ad_pr _]) (sR := [[(kScene, ad_c, _)], [(kState, ad_s, _)], kn_pool kState 20 ad_pp _]) (segs := [[(kTin, ad_t, _)], [(kScene, ad_c, _)], [(kHill, ad_h, _)], [(kState, ad_s, _)], [(kWalk, ad_w, _)], kn_pool kState 20 ad_pp _, kn_pool kRule gn_pr ad_pr _]) [0, 4, 1, 5, 2, 6, 3] rfl rfl)
      refine lv_aload_n hx hb (kn_dec tX8_day 16 rfl) rfl (lv_at hl 0 rfl) ?_
      refine kw_getl hx hb hts inX8 hown hK I 0 rfl rfl 8 (by decide) rfl (hts _ q2_107) (kn_dec tX8_day 17 rfl) e_t_8 ?_
      refine lv_aload_n hx hb (kn_dec tX8_day 18 rfl) rfl (lv_at hl 0 rfl) ?_
      refine kw_getl hx hb hts inX8 hown hK I 0 rfl rfl 6 (by decide) rfl (hts _ q2_105) (kn_dec tX8_day 19 rfl) e_t_6 ?_
      refine kw_getl hx hb hts inX5 hown hK I 1 rfl rfl 0 (by decide) rfl (hts _ q2_28) (kn_dec tX8_day 20 rfl) e_c_0 ?_
      refine lv_aload_n hx hb (kn_dec tX8_day 21 rfl) rfl (lv_at hl 0 rfl) ?_
      have I : kn_I D tc (kn_A _ s.heap.size) s.heap ((List.flatten [[(kTin, ad_t, _)], [(kScene, ad_c, _)], kn_pool kRule gn_pr ad_pr _]) ++ (List.flatten [[(kHill, ad_h, _)], [(kState, ad_s, _)], [(kWalk, ad_w, _)], kn_pool kState 20 ad_pp _])) _ _ := I.perm (kn_segA (segs := [[(kTin, ad_t, _)], [(kScene, ad_c, _)], [(kHill, ad_h, _)], [(kState, ad_s, _)], [(kWalk, ad_w, _)], kn_pool kState 20 ad_pp _, kn_pool kRule gn_pr ad_pr _]) (sC := [[(kTin, ad_t, _)], [(kScene, ad_c, _)], kn_pool kRule gn_pr ad_pr _]) (sR := [[(kHill, ad_h, _)], [(kState, ad_s, _)], [(kWalk, ad_w, _)], kn_pool kState 20 ad_pp _]) [0, 1, 6, 2, 3, 4, 5] rfl rfl)
      refine kw_callq (wc := (List.flatten [[(kTin, ad_t, _)], [(kScene, ad_c, _)], kn_pool kRule gn_pr ad_pr _])) (wr := (List.flatten [[(kHill, ad_h, _)], [(kState, ad_s, _)], [(kWalk, ad_w, _)], kn_pool kState 20 ad_pp _])) I hA (kn_pl1 _ _) (kn_pl2 _ _) (kn_pl1_ok _ _) (kn_pl2_ok _ _) (kn_pl2_nd _ _) (kn_pl_dis _ _) (kn_runV (As := []) S0 hK hZ hA I ((ctX8_ruleInForce e_t_6 p_t_4 h).met _) (kn_cwV 0 hts q3_175 q3_177 q0_14 q1_1 q3_178 rfl rfl (by decide +kernel) ⟨(Nat.le_of_ble_eq_true rfl), (Nat.le_of_ble_eq_true rfl)⟩) (kn_pl1 _ _) (kn_pl1_ok _ _) (kn_pl1_nd _ _) 0 rfl rfl rfl rfl hl.1 rfl (Nat.le_of_ble_eq_true rfl) (kn_dec tX8_day 22 rfl) ⟨(Nat.le_of_ble_eq_true rfl), (Nat.le_of_ble_eq_true rfl)⟩) (fun r6 u7 H locs h I => ?_)
      obtain ⟨r6, ho_r6, rfl, h⟩ := h
      have I : kn_I D tc (kn_A _ s.heap.size) s.heap (List.flatten [[(kTin, ad_t, _)], [(kScene, ad_c, _)], [(kHill, ad_h, _)], [(kState, ad_s, _)], [(kWalk, ad_w, _)], kn_pool kState 20 ad_pp _, kn_pool kRule gn_pr ad_pr _]) _ _ := I.perm (kn_segB (sC := [[(kHill, ad_h, _)], [(kState, ad_s, _)], [(kWalk, ad_w, _)], kn_pool kState 20 ad_pp _]) (sR := [[(kTin, ad_t, _)], [(kScene, ad_c, _)], kn_pool kRule gn_pr ad_pr _]) (segs := [[(kTin, ad_t, _)], [(kScene, ad_c, _)], [(kHill, ad_h, _)], [(kState, ad_s, _)], [(kWalk, ad_w, _)], kn_pool kState 20 ad_pp _, kn_pool kRule gn_pr ad_pr _]) [4, 5, 0, 1, 2, 3, 6] rfl rfl)
      refine lv_aload_n hx hb (kn_dec tX8_day 23 rfl) rfl (lv_at hl 0 rfl) ?_
      refine kw_getl hx hb hts inX8 hown hK I 0 rfl rfl 6 (by decide) rfl (hts _ q2_105) (kn_dec tX8_day 24 rfl) e_t_6 ?_
      refine kw_getl hx hb hts inX5 hown hK I 1 rfl rfl 3 (by decide) rfl (hts _ q2_34) (kn_dec tX8_day 25 rfl) e_c_3 ?_
      refine lv_iconst (v := (0)) hx hb (kn_dec tX8_day 26 rfl) (by decide) ?_
      rcases r6 with _ | i8
      · have h := h.1 rfl
        have I : kn_I D tc (kn_A _ s.heap.size) s.heap ([(kWalk, ad_w, _), (kHill, ad_h, _), (kState, ad_s, _)] ++ (List.flatten [[(kTin, ad_t, _)], [(kScene, ad_c, _)], kn_pool kState 20 ad_pp _, kn_pool kRule gn_pr ad_pr _])) _ _ := I.perm (kn_segA (segs := [[(kTin, ad_t, _)], [(kScene, ad_c, _)], [(kHill, ad_h, _)], [(kState, ad_s, _)], [(kWalk, ad_w, _)], kn_pool kState 20 ad_pp _, kn_pool kRule gn_pr ad_pr _]) (sC := [[(kWalk, ad_w, _)], [(kHill, ad_h, _)], [(kState, ad_s, _)]]) (sR := [[(kTin, ad_t, _)], [(kScene, ad_c, _)], kn_pool kState 20 ad_pp _, kn_pool kRule gn_pr ad_pr _]) [4, 2, 3, 0, 1, 5, 6] rfl rfl)
        refine kw_calli (wc := [(kWalk, ad_w, _), (kHill, ad_h, _), (kState, ad_s, _)]) (wr := (List.flatten [[(kTin, ad_t, _)], [(kScene, ad_c, _)], kn_pool kState 20 ad_pp _, kn_pool kRule gn_pr ad_pr _])) I hA (kn_pl1 _ _) (kn_pl2 _ _) (kn_pl1_ok _ _) (kn_pl2_ok _ _) (kn_pl2_nd _ _) (kn_pl_dis _ _) (kn_runV (As := [.ref (ad_h 0), .null, .ref (ad_s 0), .int _]) S0 hK hZ hA I ((ctX7_pass_N (Or.inl rfl) h).met _) (kn_cwV 4 hts q3_183 q3_184 q3_185 q1_9 q3_186 rfl rfl (by decide +kernel) ⟨(Nat.le_of_ble_eq_true rfl), (Nat.le_of_ble_eq_true rfl)⟩) (kn_pl1 _ _) (kn_pl1_ok _ _) (kn_pl1_nd _ _) 0 rfl rfl rfl rfl hl.1 rfl (Nat.le_of_ble_eq_true rfl) (kn_dec tX8_day 27 rfl) ⟨(Nat.le_of_ble_eq_true rfl), (Nat.le_of_ble_eq_true rfl)⟩) (fun r11 u12 H locs h I => ?_)
        have I : kn_I D tc (kn_A _ s.heap.size) s.heap (List.flatten [[(kTin, ad_t, _)], [(kScene, ad_c, _)], [(kHill, ad_h, _)], [(kState, ad_s, _)], [(kWalk, ad_w, _)], kn_pool kState 20 ad_pp _, kn_pool kRule gn_pr ad_pr _]) _ _ := I.perm (kn_segB (sC := [[(kTin, ad_t, _)], [(kScene, ad_c, _)], kn_pool kState 20 ad_pp _, kn_pool kRule gn_pr ad_pr _]) (sR := [[(kWalk, ad_w, _)], [(kHill, ad_h, _)], [(kState, ad_s, _)]]) (segs := [[(kTin, ad_t, _)], [(kScene, ad_c, _)], [(kHill, ad_h, _)], [(kState, ad_s, _)], [(kWalk, ad_w, _)], kn_pool kState 20 ad_pp _, kn_pool kRule gn_pr ad_pr _]) [0, 1, 5, 6, 4, 2, 3] rfl rfl)
        exact kw_iret hx hb hr hlocks I (u5.1, u12.2, u12.1, u5.2, v_pr) rfl h (kn_dec tX8_day 28 rfl)
      · have h := h.2 i8 rfl
        have hp_i8 := ho_r6 i8 rfl
        have I : kn_I D tc (kn_A _ s.heap.size) s.heap (List.flatten [[(kRule, ad_pr i8, _)], kn_rest kRule gn_pr ad_pr _ i8, [(kTin, ad_t, _)], [(kScene, ad_c, _)], [(kHill, ad_h, _)], [(kState, ad_s, _)], [(kWalk, ad_w, _)], kn_pool kState 20 ad_pp _]) _ _ := I.perm ((kn_seg (segs := [[(kTin, ad_t, _)], [(kScene, ad_c, _)], [(kHill, ad_h, _)], [(kState, ad_s, _)], [(kWalk, ad_w, _)], kn_pool kState 20 ad_pp _, kn_pool kRule gn_pr ad_pr _]) (segs' := [kn_pool kRule gn_pr ad_pr _, [(kTin, ad_t, _)], [(kScene, ad_c, _)], [(kHill, ad_h, _)], [(kState, ad_s, _)], [(kWalk, ad_w, _)], kn_pool kState 20 ad_pp _]) [6, 0, 1, 2, 3, 4, 5] rfl rfl).trans (kn_focus hp_i8))
        have I : kn_I D tc (kn_A _ s.heap.size) s.heap ([(kWalk, ad_w, _), (kHill, ad_h, _), (kRule, ad_pr i8, _), (kState, ad_s, _)] ++ (List.flatten [kn_rest kRule gn_pr ad_pr _ i8, [(kTin, ad_t, _)], [(kScene, ad_c, _)], kn_pool kState 20 ad_pp _])) _ _ := I.perm (kn_segA (segs := [[(kRule, ad_pr i8, _)], kn_rest kRule gn_pr ad_pr _ i8, [(kTin, ad_t, _)], [(kScene, ad_c, _)], [(kHill, ad_h, _)], [(kState, ad_s, _)], [(kWalk, ad_w, _)], kn_pool kState 20 ad_pp _]) (sC := [[(kWalk, ad_w, _)], [(kHill, ad_h, _)], [(kRule, ad_pr i8, _)], [(kState, ad_s, _)]]) (sR := [kn_rest kRule gn_pr ad_pr _ i8, [(kTin, ad_t, _)], [(kScene, ad_c, _)], kn_pool kState 20 ad_pp _]) [6, 4, 0, 5, 1, 2, 3, 7] rfl rfl)
        refine kw_calli (wc := [(kWalk, ad_w, _), (kHill, ad_h, _), (kRule, ad_pr i8, _), (kState, ad_s, _)]) (wr := (List.flatten [kn_rest kRule gn_pr ad_pr _ i8, [(kTin, ad_t, _)], [(kScene, ad_c, _)], kn_pool kState 20 ad_pp _])) I hA (kn_pl1 _ _) (kn_pl2 _ _) (kn_pl1_ok _ _) (kn_pl2_ok _ _) (kn_pl2_nd _ _) (kn_pl_dis _ _) (kn_runV (As := [.ref (ad_h 0), .ref (ad_pr i8 0), .ref (ad_s 0), .int _]) S0 hK hZ hA I ((ctX7_pass_R (Or.inl rfl) h).met _) (kn_cwV 4 hts q3_183 q3_184 q3_185 q1_9 q3_186 rfl rfl (by decide +kernel) ⟨(Nat.le_of_ble_eq_true rfl), (Nat.le_of_ble_eq_true rfl)⟩) (kn_pl1 _ _) (kn_pl1_ok _ _) (kn_pl1_nd _ _) 0 rfl rfl rfl rfl hl.1 rfl (Nat.le_of_ble_eq_true rfl) (kn_dec tX8_day 27 rfl) ⟨(Nat.le_of_ble_eq_true rfl), (Nat.le_of_ble_eq_true rfl)⟩) (fun r16 u17 H locs h I => ?_)
        have I : kn_I D tc (kn_A _ s.heap.size) s.heap (List.flatten [[(kTin, ad_t, _)], [(kScene, ad_c, _)], [(kHill, ad_h, _)], [(kState, ad_s, _)], [(kWalk, ad_w, _)], kn_pool kState 20 ad_pp _, kn_pool kRule gn_pr ad_pr _]) _ _ := I.perm ((kn_segB (sC := [kn_rest kRule gn_pr ad_pr _ i8, [(kTin, ad_t, _)], [(kScene, ad_c, _)], kn_pool kState 20 ad_pp _]) (sR := [[(kWalk, ad_w, _)], [(kHill, ad_h, _)], [(kRule, ad_pr i8, _)], [(kState, ad_s, _)]]) (segs := [[(kRule, ad_pr i8, _)], kn_rest kRule gn_pr ad_pr _ i8, [(kTin, ad_t, _)], [(kScene, ad_c, _)], [(kHill, ad_h, _)], [(kState, ad_s, _)], [(kWalk, ad_w, _)], kn_pool kState 20 ad_pp _]) [6, 0, 1, 2, 5, 7, 4, 3] rfl rfl).trans ((kn_unfocus hp_i8).trans (kn_seg (segs := [kn_pool kRule gn_pr ad_pr _, [(kTin, ad_t, _)], [(kScene, ad_c, _)], [(kHill, ad_h, _)], [(kState, ad_s, _)], [(kWalk, ad_w, _)], kn_pool kState 20 ad_pp _]) (segs' := [[(kTin, ad_t, _)], [(kScene, ad_c, _)], [(kHill, ad_h, _)], [(kState, ad_s, _)], [(kWalk, ad_w, _)], kn_pool kState 20 ad_pp _, kn_pool kRule gn_pr ad_pr _]) [1, 2, 3, 4, 5, 6, 0] rfl rfl)))
        exact kw_iret hx hb hr hlocks I (u5.1, u17.2.2, u17.1, u5.2, (va_up v_pr i8 u17.2.1)) rfl h (kn_dec tX8_day 28 rfl)
    · have h := h.2 c2
      refine lv_iconst (v := (-1)) hx hb (kn_dec tX8_day 11 rfl) (by decide) ?_
      exact kw_iret hx hb hr hlocks I (v_c, v_s, v_w, v_pp, v_pr) rfl h (kn_dec tX8_day 12 rfl)

/-! X8_ahead -/
abbrev rmX8_ahead : Room := { frames := 7, cells := 0, slots := 0, locals := 191 }
def PX8_ahead_b81 (v_t : OV) (v_c : OV) (v_h : OV) (v_s : OV) (gn_pr : Nat)  (post : Int32 → OV → OV → (Nat → OV) → Prop) (y1 : Int32) (y3 : Int32) (v_w : OV) (v_z : OV) (v_pr : (Nat → OV)) : Prop := ((¬ y3 = ((2 : Int32)) → post ((-2 : Int32)) v_w v_z v_pr) ∧ (y3 = ((2 : Int32)) → (PX8_hasSeeker v_t v_c v_h y1 (fun r2 => ((r2 = ((0 : Int32)) → post ((-2 : Int32)) v_w v_z v_pr) ∧ (¬ r2 = ((0 : Int32)) → (vp_in y1 4 ∧ post (v_z.2.1 6 y1.toNatClampNeg) v_w v_z v_pr)))))))
set_option maxRecDepth 100000 in
set_option maxHeartbeats 1000000 in
theorem wX8_ahead_b81 {v_t : OV} {v_c : OV} {v_h : OV} {v_s : OV} {gn_pr : Nat}  {post : Int32 → OV → OV → (Nat → OV) → Prop} {ad_t : Nat → Nat} {ad_c : Nat → Nat} {ad_h : Nat → Nat} {ad_s : Nat → Nat} {ad_w : Nat → Nat} {ad_z : Nat → Nat} {ad_pr : Nat → Nat → Nat} (X : kn_X p s m args meth c cX8_ahead 4 (some .int) RX8 kn_all D tc Z (kn_A w0 s.heap.size)) (e_t_6 : ad_t (6 + 1) = ad_c 0) (e_c_0 : ad_c (0 + 1) = ad_h 0) (e_c_3 : ad_c (3 + 1) = ad_s 0) (e_t_8 : ad_t (8 + 1) = ad_w 0) (e_t_9 : ad_t (9 + 1) = ad_z 0) (p_t_4 : ∀ i, i < gn_pr → kn_q ad_t 4 i = some (ad_pr i 0))   : ∀ (H : Heap) (locs : List Loc) (ls : Array Slot) (y1 : Int32) (y3 : Int32) (v_w : OV) (v_z : OV) (v_pr : (Nat → OV)), kn_I D tc (kn_A w0 s.heap.size) s.heap (List.flatten [[(kTin, ad_t, v_t)], [(kScene, ad_c, v_c)], [(kHill, ad_h, v_h)], [(kState, ad_s, v_s)], [(kWalk, ad_w, v_w)], [(kState, ad_z, v_z)], kn_pool kRule gn_pr ad_pr v_pr]) H locs → lv_has ls 4 [(0, .ref (ad_t 0)), (1, .int y1), (3, .int y3)] → PX8_ahead_b81 v_t v_c v_h v_s gn_pr post y1 y3 v_w v_z v_pr → W p l e rmX8_ahead s m args below meth c H locs 0 0 (kn_Qi D tc w0 (fun (u : OV × OV × (Nat → OV)) => (List.flatten [[(kTin, ad_t, v_t)], [(kScene, ad_c, v_c)], [(kHill, ad_h, v_h)], [(kState, ad_s, v_s)], [(kWalk, ad_w, u.1)], [(kState, ad_z, u.2.1)], kn_pool kRule gn_pr ad_pr u.2.2])) (fun (r : Int32) (u : OV × OV × (Nat → OV)) => post r u.1 u.2.1 u.2.2) below args s 0 0) (F0 m 81 ls []) := by
  obtain ⟨S0, hr, hlocks, hK, hZ, hA⟩ := id X
  obtain ⟨hx, hb, hml, hown, hts⟩ := id S0
  intro H locs ls y1 y3 v_w v_z v_pr I hl h
  unfold PX8_ahead_b81 at h
  refine lv_iload_n hx hb (kn_dec tX8_ahead 41 rfl) rfl (lv_at hl 2 rfl) ?_
  refine lv_iconst (v := (2)) hx hb (kn_dec tX8_ahead 42 rfl) (by decide) ?_
  refine lv_icmp_ne (tgt := 104) hx hb (kn_dec tX8_ahead 43 rfl) (by decide) (fun c1 => ?_) (fun c1 => ?_)
  · have h := h.1 c1
    refine lv_bipush (v := (-2)) hx hb (kn_dec tX8_ahead 54 rfl) (by decide) ?_
    exact kw_iret hx hb hr hlocks I (v_w, v_z, v_pr) rfl h (kn_dec tX8_ahead 55 rfl)
  · have h := h.2 c1
    refine lv_aload_n hx hb (kn_dec tX8_ahead 44 rfl) rfl (lv_at hl 0 rfl) ?_
    refine lv_iload_n hx hb (kn_dec tX8_ahead 45 rfl) rfl (lv_at hl 1 rfl) ?_
    have I : kn_I D tc (kn_A w0 s.heap.size) s.heap ([(kTin, ad_t, _), (kScene, ad_c, _), (kHill, ad_h, _)] ++ (List.flatten [[(kState, ad_s, _)], [(kWalk, ad_w, _)], [(kState, ad_z, _)], kn_pool kRule gn_pr ad_pr _])) _ _ := I.perm (kn_segA (segs := [[(kTin, ad_t, _)], [(kScene, ad_c, _)], [(kHill, ad_h, _)], [(kState, ad_s, _)], [(kWalk, ad_w, _)], [(kState, ad_z, _)], kn_pool kRule gn_pr ad_pr _]) (sC := [[(kTin, ad_t, _)], [(kScene, ad_c, _)], [(kHill, ad_h, _)]]) (sR := [[(kState, ad_s, _)], [(kWalk, ad_w, _)], [(kState, ad_z, _)], kn_pool kRule gn_pr ad_pr _]) [0, 1, 2, 3, 4, 5, 6] rfl rfl)
    refine kw_calli (wc := [(kTin, ad_t, _), (kScene, ad_c, _), (kHill, ad_h, _)]) (wr := (List.flatten [[(kState, ad_s, _)], [(kWalk, ad_w, _)], [(kState, ad_z, _)], kn_pool kRule gn_pr ad_pr _])) I hA (kn_pl1 _ _) (kn_pl2 _ _) (kn_pl1_ok _ _) (kn_pl2_ok _ _) (kn_pl2_nd _ _) (kn_pl_dis _ _) (kn_runV (As := [.int _]) S0 hK hZ hA I ((ctX8_hasSeeker e_t_6 e_c_0 h).met _) (kn_cwV 1 hts q3_154 q3_156 q0_13 q1_1 q3_157 rfl rfl (by decide +kernel) ⟨(Nat.le_of_ble_eq_true rfl), (Nat.le_of_ble_eq_true rfl)⟩) (kn_pl1 _ _) (kn_pl1_ok _ _) (kn_pl1_nd _ _) 0 rfl rfl rfl rfl hl.1 rfl (Nat.le_of_ble_eq_true rfl) (kn_dec tX8_ahead 46 rfl) ⟨(Nat.le_of_ble_eq_true rfl), (Nat.le_of_ble_eq_true rfl)⟩) (fun r2 u3 H locs h I => ?_)
    obtain ⟨hz_r2, h⟩ := h
    have I : kn_I D tc (kn_A w0 s.heap.size) s.heap (List.flatten [[(kTin, ad_t, _)], [(kScene, ad_c, _)], [(kHill, ad_h, _)], [(kState, ad_s, _)], [(kWalk, ad_w, _)], [(kState, ad_z, _)], kn_pool kRule gn_pr ad_pr _]) _ _ := I.perm (kn_segB (sC := [[(kState, ad_s, _)], [(kWalk, ad_w, _)], [(kState, ad_z, _)], kn_pool kRule gn_pr ad_pr _]) (sR := [[(kTin, ad_t, _)], [(kScene, ad_c, _)], [(kHill, ad_h, _)]]) (segs := [[(kTin, ad_t, _)], [(kScene, ad_c, _)], [(kHill, ad_h, _)], [(kState, ad_s, _)], [(kWalk, ad_w, _)], [(kState, ad_z, _)], kn_pool kRule gn_pr ad_pr _]) [4, 5, 6, 0, 1, 2, 3] rfl rfl)
    refine lv_if_eq (tgt := 104) hx hb (kn_dec tX8_ahead 47 rfl) (by decide) (fun c4 => ?_) (fun c4 => ?_)
    · have h := h.1 c4
      refine lv_bipush (v := (-2)) hx hb (kn_dec tX8_ahead 54 rfl) (by decide) ?_
      exact kw_iret hx hb hr hlocks I (v_w, v_z, v_pr) rfl h (kn_dec tX8_ahead 55 rfl)
    · have h := h.2 c4
      refine lv_aload_n hx hb (kn_dec tX8_ahead 48 rfl) rfl (lv_at hl 0 rfl) ?_
      refine kw_getl hx hb hts inX8 hown hK I 0 rfl rfl 9 (by decide) rfl (hts _ q2_108) (kn_dec tX8_ahead 49 rfl) e_t_9 ?_
      refine kw_getl hx hb hts inX6 hown hK I 5 rfl rfl 6 (by decide) rfl (hts _ q2_0) (kn_dec tX8_ahead 50 rfl) rfl ?_
      refine lv_iload_n hx hb (kn_dec tX8_ahead 51 rfl) rfl (lv_at hl 1 rfl) ?_
      obtain ⟨hs5, h⟩ := h
      refine kw_iald hx hb hK I 5 rfl 6 4 (List.mem_of_getElem? (i := 3) rfl) hs5 (kn_dec tX8_ahead 52 rfl) ?_
      exact kw_iret hx hb hr hlocks I (v_w, v_z, v_pr) rfl h (kn_dec tX8_ahead 53 rfl)
def PX8_ahead  (v_t : OV) (v_c : OV) (v_h : OV) (v_s : OV) (v_w : OV) (v_z : OV) (v_pr : (Nat → OV)) (gn_pr : Nat) (a1 : Int32) (a2 : Int32) (a3 : Int32) (post : Int32 → OV → OV → (Nat → OV) → Prop) : Prop := (((v_h.1 0) = ((0 : Int32)) → post ((-2 : Int32)) v_w v_z v_pr) ∧ (¬ (v_h.1 0) = ((0 : Int32)) → ((a2 < ((0 : Int32)) → post ((-2 : Int32)) v_w v_z v_pr) ∧ (¬ a2 < ((0 : Int32)) → ((a2 ≤ ((100 : Int32)) → (PX6_copy v_z v_s (fun v_z4 => (PX8_goOn v_t v_c v_h v_w v_z4 v_pr gn_pr a2 (fun r9 v_w6 v_z7 v_pr8 => ((¬ a3 = ((0 : Int32)) → ((¬ a3 = ((1 : Int32)) → PX8_ahead_b81 v_t v_c v_h v_s gn_pr post a1 a3 v_w6 v_z7 v_pr8) ∧ (a3 = ((1 : Int32)) → (PX8_hasStone v_t v_c v_h a1 (fun r13 => ((r13 = ((0 : Int32)) → PX8_ahead_b81 v_t v_c v_h v_s gn_pr post a1 a3 v_w6 v_z7 v_pr8) ∧ (¬ r13 = ((0 : Int32)) → (vp_in a1 10 ∧ post (v_z7.2.1 3 a1.toNatClampNeg) v_w6 v_z7 v_pr8)))))))) ∧ (a3 = ((0 : Int32)) → post (v_z7.1 2) v_w6 v_z7 v_pr8))))))) ∧ (¬ a2 ≤ ((100 : Int32)) → post ((-2 : Int32)) v_w v_z v_pr))))))
set_option maxRecDepth 100000 in
set_option maxHeartbeats 1000000 in
theorem ctX8_ahead {l : Launch} {D : va_G} {tc : Nat → ClassId} {Z : (Nat → Nat) × (Nat → Nat)}  {ad_t : Nat → Nat} {ad_c : Nat → Nat} {ad_h : Nat → Nat} {ad_s : Nat → Nat} {ad_w : Nat → Nat} {ad_z : Nat → Nat} {ad_pr : Nat → Nat → Nat} {v_t : OV} {v_c : OV} {v_h : OV} {v_s : OV} {v_w : OV} {v_z : OV} {v_pr : (Nat → OV)} {gn_pr : Nat} {a1 : Int32} {a2 : Int32} {a3 : Int32} (e_t_6 : ad_t (6 + 1) = ad_c 0) (e_c_0 : ad_c (0 + 1) = ad_h 0) (e_c_3 : ad_c (3 + 1) = ad_s 0) (e_t_8 : ad_t (8 + 1) = ad_w 0) (e_t_9 : ad_t (9 + 1) = ad_z 0) (p_t_4 : ∀ i, i < gn_pr → kn_q ad_t 4 i = some (ad_pr i 0))   {post : Int32 → OV → OV → (Nat → OV) → Prop} (h : PX8_ahead  v_t v_c v_h v_s v_w v_z v_pr gn_pr a1 a2 a3 post) : CTi l D tc Z yX8_ahead (Cond.code yX8_ahead cX8_ahead 4 (some .int) :: kn_all) rmX8_ahead 0 0 [.ref (ad_t 0), .int a1, .int a2, .int a3] (List.flatten [[(kTin, ad_t, v_t)], [(kScene, ad_c, v_c)], [(kHill, ad_h, v_h)], [(kState, ad_s, v_s)], [(kWalk, ad_w, v_w)], [(kState, ad_z, v_z)], kn_pool kRule gn_pr ad_pr v_pr]) (fun (u : OV × OV × (Nat → OV)) => (List.flatten [[(kTin, ad_t, v_t)], [(kScene, ad_c, v_c)], [(kHill, ad_h, v_h)], [(kState, ad_s, v_s)], [(kWalk, ad_w, u.1)], [(kState, ad_z, u.2.1)], kn_pool kRule gn_pr ad_pr u.2.2])) (fun (r : Int32) (u : OV × OV × (Nat → OV)) => post r u.1 u.2.1 u.2.2) := by
  refine kn_ofi (cc := cX8_ahead) (nL := 4) (ret := (some .int)) (lv := [(0, .ref (ad_t 0)), (1, .int a1), (2, .int a2), (3, .int a3)]) (by decide) (Nat.le_of_ble_eq_true rfl) rfl (fun p e s m below meth c ls X I hl _ => ?_)
  obtain ⟨S0, hr, hlocks, hK, hZ, hA⟩ := id X
  obtain ⟨hx, hb, hml, hown, hts⟩ := id S0
  unfold PX8_ahead at h
  refine lv_aload_n hx hb (kn_dec tX8_ahead 0 rfl) rfl (lv_at hl 0 rfl) ?_
  refine kw_getl hx hb hts inX8 hown hK I 0 rfl rfl 6 (by decide) rfl (hts _ q2_105) (kn_dec tX8_ahead 1 rfl) e_t_6 ?_
  refine kw_getl hx hb hts inX5 hown hK I 1 rfl rfl 0 (by decide) rfl (hts _ q2_28) (kn_dec tX8_ahead 2 rfl) e_c_0 ?_
  refine kw_geti hx hb hts inX0 hown hK I 2 rfl rfl 0 (by decide) rfl (hts _ q1_119) (kn_dec tX8_ahead 3 rfl) ?_
  refine lv_if_eq (tgt := 23) hx hb (kn_dec tX8_ahead 4 rfl) (by decide) (fun c1 => ?_) (fun c1 => ?_)
  · have h := h.1 c1
    refine lv_bipush (v := (-2)) hx hb (kn_dec tX8_ahead 10 rfl) (by decide) ?_
    exact kw_iret hx hb hr hlocks I (v_w, v_z, v_pr) rfl h (kn_dec tX8_ahead 11 rfl)
  · have h := h.2 c1
    refine lv_iload_n hx hb (kn_dec tX8_ahead 5 rfl) rfl (lv_at hl 2 rfl) ?_
    refine lv_if_lt (tgt := 23) hx hb (kn_dec tX8_ahead 6 rfl) (by decide) (fun c2 => ?_) (fun c2 => ?_)
    · have h := h.1 c2
      refine lv_bipush (v := (-2)) hx hb (kn_dec tX8_ahead 10 rfl) (by decide) ?_
      exact kw_iret hx hb hr hlocks I (v_w, v_z, v_pr) rfl h (kn_dec tX8_ahead 11 rfl)
    · have h := h.2 c2
      refine lv_iload_n hx hb (kn_dec tX8_ahead 7 rfl) rfl (lv_at hl 2 rfl) ?_
      refine lv_bipush (v := (100)) hx hb (kn_dec tX8_ahead 8 rfl) (by decide) ?_
      refine lv_icmp_le (tgt := 26) hx hb (kn_dec tX8_ahead 9 rfl) (by decide) (fun c3 => ?_) (fun c3 => ?_)
      · have h := h.1 c3
        refine lv_aload_n hx hb (kn_dec tX8_ahead 12 rfl) rfl (lv_at hl 0 rfl) ?_
        refine kw_getl hx hb hts inX8 hown hK I 0 rfl rfl 9 (by decide) rfl (hts _ q2_108) (kn_dec tX8_ahead 13 rfl) e_t_9 ?_
        refine lv_aload_n hx hb (kn_dec tX8_ahead 14 rfl) rfl (lv_at hl 0 rfl) ?_
        refine kw_getl hx hb hts inX8 hown hK I 0 rfl rfl 6 (by decide) rfl (hts _ q2_105) (kn_dec tX8_ahead 15 rfl) e_t_6 ?_
        refine kw_getl hx hb hts inX5 hown hK I 1 rfl rfl 3 (by decide) rfl (hts _ q2_34) (kn_dec tX8_ahead 16 rfl) e_c_3 ?_
        have I : kn_I D tc (kn_A _ s.heap.size) s.heap ([(kState, ad_z, _), (kState, ad_s, _)] ++ (List.flatten [[(kTin, ad_t, _)], [(kScene, ad_c, _)], [(kHill, ad_h, _)], [(kWalk, ad_w, _)], kn_pool kRule gn_pr ad_pr _])) _ _ := I.perm (kn_segA (segs := [[(kTin, ad_t, _)], [(kScene, ad_c, _)], [(kHill, ad_h, _)], [(kState, ad_s, _)], [(kWalk, ad_w, _)], [(kState, ad_z, _)], kn_pool kRule gn_pr ad_pr _]) (sC := [[(kState, ad_z, _)], [(kState, ad_s, _)]]) (sR := [[(kTin, ad_t, _)], [(kScene, ad_c, _)], [(kHill, ad_h, _)], [(kWalk, ad_w, _)], kn_pool kRule gn_pr ad_pr _]) [5, 3, 0, 1, 2, 4, 6] rfl rfl)
        refine kw_callv (wc := [(kState, ad_z, _), (kState, ad_s, _)]) (wr := (List.flatten [[(kTin, ad_t, _)], [(kScene, ad_c, _)], [(kHill, ad_h, _)], [(kWalk, ad_w, _)], kn_pool kRule gn_pr ad_pr _])) I hA (kn_pl1 _ _) (kn_pl2 _ _) (kn_pl1_ok _ _) (kn_pl2_ok _ _) (kn_pl2_nd _ _) (kn_pl_dis _ _) (kn_runV (As := [.ref (ad_s 0)]) S0 hK hZ hA I ((ctX6_copy h).met _) (kn_cwV 1 hts q4_44 q3_171 q3_172 q1_8 q3_173 rfl rfl (by decide +kernel) ⟨(Nat.le_of_ble_eq_true rfl), (Nat.le_of_ble_eq_true rfl)⟩) (kn_pl1 _ _) (kn_pl1_ok _ _) (kn_pl1_nd _ _) 0 rfl rfl rfl rfl hl.1 rfl (Nat.le_of_ble_eq_true rfl) (kn_dec tX8_ahead 17 rfl) ⟨(Nat.le_of_ble_eq_true rfl), (Nat.le_of_ble_eq_true rfl)⟩) (fun u5 H locs h I => ?_)
        have I : kn_I D tc (kn_A _ s.heap.size) s.heap (List.flatten [[(kTin, ad_t, _)], [(kScene, ad_c, _)], [(kHill, ad_h, _)], [(kState, ad_s, _)], [(kWalk, ad_w, _)], [(kState, ad_z, _)], kn_pool kRule gn_pr ad_pr _]) _ _ := I.perm (kn_segB (sC := [[(kTin, ad_t, _)], [(kScene, ad_c, _)], [(kHill, ad_h, _)], [(kWalk, ad_w, _)], kn_pool kRule gn_pr ad_pr _]) (sR := [[(kState, ad_z, _)], [(kState, ad_s, _)]]) (segs := [[(kTin, ad_t, _)], [(kScene, ad_c, _)], [(kHill, ad_h, _)], [(kState, ad_s, _)], [(kWalk, ad_w, _)], [(kState, ad_z, _)], kn_pool kRule gn_pr ad_pr _]) [0, 1, 2, 6, 3, 5, 4] rfl rfl)
        refine lv_aload_n hx hb (kn_dec tX8_ahead 18 rfl) rfl (lv_at hl 0 rfl) ?_
        refine lv_iload_n hx hb (kn_dec tX8_ahead 19 rfl) rfl (lv_at hl 2 rfl) ?_
        have I : kn_I D tc (kn_A _ s.heap.size) s.heap ((List.flatten [[(kTin, ad_t, _)], [(kScene, ad_c, _)], [(kHill, ad_h, _)], [(kWalk, ad_w, _)], [(kState, ad_z, _)], kn_pool kRule gn_pr ad_pr _]) ++ (List.flatten [[(kState, ad_s, _)]])) _ _ := I.perm (kn_segA (segs := [[(kTin, ad_t, _)], [(kScene, ad_c, _)], [(kHill, ad_h, _)], [(kState, ad_s, _)], [(kWalk, ad_w, _)], [(kState, ad_z, _)], kn_pool kRule gn_pr ad_pr _]) (sC := [[(kTin, ad_t, _)], [(kScene, ad_c, _)], [(kHill, ad_h, _)], [(kWalk, ad_w, _)], [(kState, ad_z, _)], kn_pool kRule gn_pr ad_pr _]) (sR := [[(kState, ad_s, _)]]) [0, 1, 2, 4, 5, 6, 3] rfl rfl)
        refine kw_calli (wc := (List.flatten [[(kTin, ad_t, _)], [(kScene, ad_c, _)], [(kHill, ad_h, _)], [(kWalk, ad_w, _)], [(kState, ad_z, _)], kn_pool kRule gn_pr ad_pr _])) (wr := (List.flatten [[(kState, ad_s, _)]])) I hA (kn_pl1 _ _) (kn_pl2 _ _) (kn_pl1_ok _ _) (kn_pl2_ok _ _) (kn_pl2_nd _ _) (kn_pl_dis _ _) (kn_runV (As := [.int _]) S0 hK hZ hA I ((ctX8_goOn e_t_6 e_c_0 e_t_8 e_t_9 p_t_4 h).met _) (kn_cwV 1 hts q4_45 q4_47 q0_21 q1_1 q4_48 rfl rfl (by decide +kernel) ⟨(Nat.le_of_ble_eq_true rfl), (Nat.le_of_ble_eq_true rfl)⟩) (kn_pl1 _ _) (kn_pl1_ok _ _) (kn_pl1_nd _ _) 0 rfl rfl rfl rfl hl.1 rfl (Nat.le_of_ble_eq_true rfl) (kn_dec tX8_ahead 20 rfl) ⟨(Nat.le_of_ble_eq_true rfl), (Nat.le_of_ble_eq_true rfl)⟩) (fun r9 u10 H locs h I => ?_)
        have I : kn_I D tc (kn_A _ s.heap.size) s.heap (List.flatten [[(kTin, ad_t, _)], [(kScene, ad_c, _)], [(kHill, ad_h, _)], [(kState, ad_s, _)], [(kWalk, ad_w, _)], [(kState, ad_z, _)], kn_pool kRule gn_pr ad_pr _]) _ _ := I.perm (kn_segB (sC := [[(kState, ad_s, _)]]) (sR := [[(kTin, ad_t, _)], [(kScene, ad_c, _)], [(kHill, ad_h, _)], [(kWalk, ad_w, _)], [(kState, ad_z, _)], kn_pool kRule gn_pr ad_pr _]) (segs := [[(kTin, ad_t, _)], [(kScene, ad_c, _)], [(kHill, ad_h, _)], [(kState, ad_s, _)], [(kWalk, ad_w, _)], [(kState, ad_z, _)], kn_pool kRule gn_pr ad_pr _]) [1, 2, 3, 0, 4, 5, 6] rfl rfl)
        refine lv_pop hx hb (kn_dec tX8_ahead 21 rfl) rfl ?_
        refine lv_iload_n hx hb (kn_dec tX8_ahead 22 rfl) rfl (lv_at hl 3 rfl) ?_
        refine lv_if_ne (tgt := 58) hx hb (kn_dec tX8_ahead 23 rfl) (by decide) (fun c11 => ?_) (fun c11 => ?_)
        · have h := h.1 c11
          refine lv_iload_n hx hb (kn_dec tX8_ahead 28 rfl) rfl (lv_at hl 3 rfl) ?_
          refine lv_iconst (v := (1)) hx hb (kn_dec tX8_ahead 29 rfl) (by decide) ?_
          refine lv_icmp_ne (tgt := 81) hx hb (kn_dec tX8_ahead 30 rfl) (by decide) (fun c12 => ?_) (fun c12 => ?_)
          · have h := h.1 c12
            exact wX8_ahead_b81 X e_t_6 e_c_0 e_c_3 e_t_8 e_t_9 p_t_4 _ _ _ _ _ _ _ _  I (lv_sub hl [0, 1, 3] rfl) h
          · have h := h.2 c12
            refine lv_aload_n hx hb (kn_dec tX8_ahead 31 rfl) rfl (lv_at hl 0 rfl) ?_
            refine lv_iload_n hx hb (kn_dec tX8_ahead 32 rfl) rfl (lv_at hl 1 rfl) ?_
            have I : kn_I D tc (kn_A _ s.heap.size) s.heap ([(kTin, ad_t, _), (kScene, ad_c, _), (kHill, ad_h, _)] ++ (List.flatten [[(kState, ad_s, _)], [(kWalk, ad_w, _)], [(kState, ad_z, _)], kn_pool kRule gn_pr ad_pr _])) _ _ := I.perm (kn_segA (segs := [[(kTin, ad_t, _)], [(kScene, ad_c, _)], [(kHill, ad_h, _)], [(kState, ad_s, _)], [(kWalk, ad_w, _)], [(kState, ad_z, _)], kn_pool kRule gn_pr ad_pr _]) (sC := [[(kTin, ad_t, _)], [(kScene, ad_c, _)], [(kHill, ad_h, _)]]) (sR := [[(kState, ad_s, _)], [(kWalk, ad_w, _)], [(kState, ad_z, _)], kn_pool kRule gn_pr ad_pr _]) [0, 1, 2, 3, 4, 5, 6] rfl rfl)
            refine kw_calli (wc := [(kTin, ad_t, _), (kScene, ad_c, _), (kHill, ad_h, _)]) (wr := (List.flatten [[(kState, ad_s, _)], [(kWalk, ad_w, _)], [(kState, ad_z, _)], kn_pool kRule gn_pr ad_pr _])) I hA (kn_pl1 _ _) (kn_pl2 _ _) (kn_pl1_ok _ _) (kn_pl2_ok _ _) (kn_pl2_nd _ _) (kn_pl_dis _ _) (kn_runV (As := [.int _]) S0 hK hZ hA I ((ctX8_hasStone e_t_6 e_c_0 h).met _) (kn_cwV 1 hts q3_142 q3_144 q0_12 q1_1 q3_145 rfl rfl (by decide +kernel) ⟨(Nat.le_of_ble_eq_true rfl), (Nat.le_of_ble_eq_true rfl)⟩) (kn_pl1 _ _) (kn_pl1_ok _ _) (kn_pl1_nd _ _) 0 rfl rfl rfl rfl hl.1 rfl (Nat.le_of_ble_eq_true rfl) (kn_dec tX8_ahead 33 rfl) ⟨(Nat.le_of_ble_eq_true rfl), (Nat.le_of_ble_eq_true rfl)⟩) (fun r13 u14 H locs h I => ?_)
            obtain ⟨hz_r13, h⟩ := h
            have I : kn_I D tc (kn_A _ s.heap.size) s.heap (List.flatten [[(kTin, ad_t, _)], [(kScene, ad_c, _)], [(kHill, ad_h, _)], [(kState, ad_s, _)], [(kWalk, ad_w, _)], [(kState, ad_z, _)], kn_pool kRule gn_pr ad_pr _]) _ _ := I.perm (kn_segB (sC := [[(kState, ad_s, _)], [(kWalk, ad_w, _)], [(kState, ad_z, _)], kn_pool kRule gn_pr ad_pr _]) (sR := [[(kTin, ad_t, _)], [(kScene, ad_c, _)], [(kHill, ad_h, _)]]) (segs := [[(kTin, ad_t, _)], [(kScene, ad_c, _)], [(kHill, ad_h, _)], [(kState, ad_s, _)], [(kWalk, ad_w, _)], [(kState, ad_z, _)], kn_pool kRule gn_pr ad_pr _]) [4, 5, 6, 0, 1, 2, 3] rfl rfl)
            refine lv_if_eq (tgt := 81) hx hb (kn_dec tX8_ahead 34 rfl) (by decide) (fun c15 => ?_) (fun c15 => ?_)
            · have h := h.1 c15
              exact wX8_ahead_b81 X e_t_6 e_c_0 e_c_3 e_t_8 e_t_9 p_t_4 _ _ _ _ _ _ _ _  I (lv_sub hl [0, 1, 3] rfl) h
            · have h := h.2 c15
              refine lv_aload_n hx hb (kn_dec tX8_ahead 35 rfl) rfl (lv_at hl 0 rfl) ?_
              refine kw_getl hx hb hts inX8 hown hK I 0 rfl rfl 9 (by decide) rfl (hts _ q2_108) (kn_dec tX8_ahead 36 rfl) e_t_9 ?_
              refine kw_getl hx hb hts inX6 hown hK I 5 rfl rfl 3 (by decide) rfl (hts _ q1_231) (kn_dec tX8_ahead 37 rfl) rfl ?_
              refine lv_iload_n hx hb (kn_dec tX8_ahead 38 rfl) rfl (lv_at hl 1 rfl) ?_
              obtain ⟨hs16, h⟩ := h
              refine kw_iald hx hb hK I 5 rfl 3 10 (List.mem_of_getElem? (i := 0) rfl) hs16 (kn_dec tX8_ahead 39 rfl) ?_
              exact kw_iret hx hb hr hlocks I (u10.1, u10.2.1, u10.2.2) rfl h (kn_dec tX8_ahead 40 rfl)
        · have h := h.2 c11
          refine lv_aload_n hx hb (kn_dec tX8_ahead 24 rfl) rfl (lv_at hl 0 rfl) ?_
          refine kw_getl hx hb hts inX8 hown hK I 0 rfl rfl 9 (by decide) rfl (hts _ q2_108) (kn_dec tX8_ahead 25 rfl) e_t_9 ?_
          refine kw_geti hx hb hts inX6 hown hK I 5 rfl rfl 2 (by decide) rfl (hts _ q1_227) (kn_dec tX8_ahead 26 rfl) ?_
          exact kw_iret hx hb hr hlocks I (u10.1, u10.2.1, u10.2.2) rfl h (kn_dec tX8_ahead 27 rfl)
      · have h := h.2 c3
        refine lv_bipush (v := (-2)) hx hb (kn_dec tX8_ahead 10 rfl) (by decide) ?_
        exact kw_iret hx hb hr hlocks I (v_w, v_z, v_pr) rfl h (kn_dec tX8_ahead 11 rfl)

/-! X8_today -/
abbrev rmX8_today : Room := { frames := 5, cells := 0, slots := 0, locals := 141 }
def PX8_today  (v_t : OV) (v_c : OV) (v_h : OV) (v_s : OV) (v_w : OV) (v_z : OV) (v_pr : (Nat → OV)) (gn_pr : Nat) (a1 : Int32) (a2 : Int32) (post : Int32 → OV → OV → (Nat → OV) → Prop) : Prop := (PX8_hasSeeker v_t v_c v_h a1 (fun r1 => ((r1 = ((0 : Int32)) → post ((-3 : Int32)) v_w v_z v_pr) ∧ (¬ r1 = ((0 : Int32)) → ((((-1 : Int32)) ≤ a2 → (PX6_copy v_z v_s (fun v_z5 => (vp_in a1 4 ∧ (∀ v_z8 : OV, v_z8 = sa v_z5 6 (upd (v_z5.2.1 6) a1.toNatClampNeg ((-1 : Int32))) → (PX8_ruleInForce v_t v_c v_pr gn_pr (fun r9 => ((r9 = none → (PX7_look_N v_w v_h v_z8 a1 (fun v_w12 => ((¬ a2 = ((-1 : Int32)) → (((v_w12.1 3) ≤ a2 → post ((-2 : Int32)) v_w12 v_z8 v_pr) ∧ (¬ (v_w12.1 3) ≤ a2 → (vp_in a2 10 ∧ post (v_w12.2.1 2 a2.toNatClampNeg) v_w12 v_z8 v_pr)))) ∧ (a2 = ((-1 : Int32)) → post (v_w12.1 4) v_w12 v_z8 v_pr))))) ∧ (∀ i11 : Nat, r9 = some i11 → (PX7_look_R v_w v_h (v_pr i11) v_z8 a1 (fun v_w17 v_pr18 => ((¬ a2 = ((-1 : Int32)) → (((v_w17.1 3) ≤ a2 → post ((-2 : Int32)) v_w17 v_z8 (va_up v_pr i11 v_pr18)) ∧ (¬ (v_w17.1 3) ≤ a2 → (vp_in a2 10 ∧ post (v_w17.2.1 2 a2.toNatClampNeg) v_w17 v_z8 (va_up v_pr i11 v_pr18))))) ∧ (a2 = ((-1 : Int32)) → post (v_w17.1 4) v_w17 v_z8 (va_up v_pr i11 v_pr18)))))))))))))) ∧ (¬ ((-1 : Int32)) ≤ a2 → post ((-3 : Int32)) v_w v_z v_pr))))))
set_option maxRecDepth 100000 in
set_option maxHeartbeats 1000000 in
theorem ctX8_today {l : Launch} {D : va_G} {tc : Nat → ClassId} {Z : (Nat → Nat) × (Nat → Nat)}  {ad_t : Nat → Nat} {ad_c : Nat → Nat} {ad_h : Nat → Nat} {ad_s : Nat → Nat} {ad_w : Nat → Nat} {ad_z : Nat → Nat} {ad_pr : Nat → Nat → Nat} {v_t : OV} {v_c : OV} {v_h : OV} {v_s : OV} {v_w : OV} {v_z : OV} {v_pr : (Nat → OV)} {gn_pr : Nat} {a1 : Int32} {a2 : Int32} (e_t_6 : ad_t (6 + 1) = ad_c 0) (e_c_0 : ad_c (0 + 1) = ad_h 0) (e_c_3 : ad_c (3 + 1) = ad_s 0) (e_t_8 : ad_t (8 + 1) = ad_w 0) (e_t_9 : ad_t (9 + 1) = ad_z 0) (p_t_4 : ∀ i, i < gn_pr → kn_q ad_t 4 i = some (ad_pr i 0))   {post : Int32 → OV → OV → (Nat → OV) → Prop} (h : PX8_today  v_t v_c v_h v_s v_w v_z v_pr gn_pr a1 a2 post) : CTi l D tc Z yX8_today (Cond.code yX8_today cX8_today 3 (some .int) :: kn_all) rmX8_today 0 0 [.ref (ad_t 0), .int a1, .int a2] (List.flatten [[(kTin, ad_t, v_t)], [(kScene, ad_c, v_c)], [(kHill, ad_h, v_h)], [(kState, ad_s, v_s)], [(kWalk, ad_w, v_w)], [(kState, ad_z, v_z)], kn_pool kRule gn_pr ad_pr v_pr]) (fun (u : OV × OV × (Nat → OV)) => (List.flatten [[(kTin, ad_t, v_t)], [(kScene, ad_c, v_c)], [(kHill, ad_h, v_h)], [(kState, ad_s, v_s)], [(kWalk, ad_w, u.1)], [(kState, ad_z, u.2.1)], kn_pool kRule gn_pr ad_pr u.2.2])) (fun (r : Int32) (u : OV × OV × (Nat → OV)) => post r u.1 u.2.1 u.2.2) := by
  refine kn_ofi (cc := cX8_today) (nL := 3) (ret := (some .int)) (lv := [(0, .ref (ad_t 0)), (1, .int a1), (2, .int a2)]) (by decide) (Nat.le_of_ble_eq_true rfl) rfl (fun p e s m below meth c ls X I hl _ => ?_)
  obtain ⟨S0, hr, hlocks, hK, hZ, hA⟩ := id X
  obtain ⟨hx, hb, hml, hown, hts⟩ := id S0
  unfold PX8_today at h
  refine lv_aload_n hx hb (kn_dec tX8_today 0 rfl) rfl (lv_at hl 0 rfl) ?_
  refine lv_iload_n hx hb (kn_dec tX8_today 1 rfl) rfl (lv_at hl 1 rfl) ?_
  have I : kn_I D tc (kn_A _ s.heap.size) s.heap ([(kTin, ad_t, _), (kScene, ad_c, _), (kHill, ad_h, _)] ++ (List.flatten [[(kState, ad_s, _)], [(kWalk, ad_w, _)], [(kState, ad_z, _)], kn_pool kRule gn_pr ad_pr _])) _ _ := I.perm (kn_segA (segs := [[(kTin, ad_t, _)], [(kScene, ad_c, _)], [(kHill, ad_h, _)], [(kState, ad_s, _)], [(kWalk, ad_w, _)], [(kState, ad_z, _)], kn_pool kRule gn_pr ad_pr _]) (sC := [[(kTin, ad_t, _)], [(kScene, ad_c, _)], [(kHill, ad_h, _)]]) (sR := [[(kState, ad_s, _)], [(kWalk, ad_w, _)], [(kState, ad_z, _)], kn_pool kRule gn_pr ad_pr _]) [0, 1, 2, 3, 4, 5, 6] rfl rfl)
  refine kw_calli (wc := [(kTin, ad_t, _), (kScene, ad_c, _), (kHill, ad_h, _)]) (wr := (List.flatten [[(kState, ad_s, _)], [(kWalk, ad_w, _)], [(kState, ad_z, _)], kn_pool kRule gn_pr ad_pr _])) I hA (kn_pl1 _ _) (kn_pl2 _ _) (kn_pl1_ok _ _) (kn_pl2_ok _ _) (kn_pl2_nd _ _) (kn_pl_dis _ _) (kn_runV (As := [.int _]) S0 hK hZ hA I ((ctX8_hasSeeker e_t_6 e_c_0 h).met _) (kn_cwV 1 hts q3_154 q3_156 q0_13 q1_1 q3_157 rfl rfl (by decide +kernel) ⟨(Nat.le_of_ble_eq_true rfl), (Nat.le_of_ble_eq_true rfl)⟩) (kn_pl1 _ _) (kn_pl1_ok _ _) (kn_pl1_nd _ _) 0 rfl rfl rfl rfl hl.1 rfl (Nat.le_of_ble_eq_true rfl) (kn_dec tX8_today 2 rfl) ⟨(Nat.le_of_ble_eq_true rfl), (Nat.le_of_ble_eq_true rfl)⟩) (fun r1 u2 H locs h I => ?_)
  obtain ⟨hz_r1, h⟩ := h
  have I : kn_I D tc (kn_A _ s.heap.size) s.heap (List.flatten [[(kTin, ad_t, _)], [(kScene, ad_c, _)], [(kHill, ad_h, _)], [(kState, ad_s, _)], [(kWalk, ad_w, _)], [(kState, ad_z, _)], kn_pool kRule gn_pr ad_pr _]) _ _ := I.perm (kn_segB (sC := [[(kState, ad_s, _)], [(kWalk, ad_w, _)], [(kState, ad_z, _)], kn_pool kRule gn_pr ad_pr _]) (sR := [[(kTin, ad_t, _)], [(kScene, ad_c, _)], [(kHill, ad_h, _)]]) (segs := [[(kTin, ad_t, _)], [(kScene, ad_c, _)], [(kHill, ad_h, _)], [(kState, ad_s, _)], [(kWalk, ad_w, _)], [(kState, ad_z, _)], kn_pool kRule gn_pr ad_pr _]) [4, 5, 6, 0, 1, 2, 3] rfl rfl)
  refine lv_if_eq (tgt := 13) hx hb (kn_dec tX8_today 3 rfl) (by decide) (fun c3 => ?_) (fun c3 => ?_)
  · have h := h.1 c3
    refine lv_bipush (v := (-3)) hx hb (kn_dec tX8_today 7 rfl) (by decide) ?_
    exact kw_iret hx hb hr hlocks I (v_w, v_z, v_pr) rfl h (kn_dec tX8_today 8 rfl)
  · have h := h.2 c3
    refine lv_iload_n hx hb (kn_dec tX8_today 4 rfl) rfl (lv_at hl 2 rfl) ?_
    refine lv_iconst (v := (-1)) hx hb (kn_dec tX8_today 5 rfl) (by decide) ?_
    refine lv_icmp_ge (tgt := 16) hx hb (kn_dec tX8_today 6 rfl) (by decide) (fun c4 => ?_) (fun c4 => ?_)
    · have h := h.1 c4
      refine lv_aload_n hx hb (kn_dec tX8_today 9 rfl) rfl (lv_at hl 0 rfl) ?_
      refine kw_getl hx hb hts inX8 hown hK I 0 rfl rfl 9 (by decide) rfl (hts _ q2_108) (kn_dec tX8_today 10 rfl) e_t_9 ?_
      refine lv_aload_n hx hb (kn_dec tX8_today 11 rfl) rfl (lv_at hl 0 rfl) ?_
      refine kw_getl hx hb hts inX8 hown hK I 0 rfl rfl 6 (by decide) rfl (hts _ q2_105) (kn_dec tX8_today 12 rfl) e_t_6 ?_
      refine kw_getl hx hb hts inX5 hown hK I 1 rfl rfl 3 (by decide) rfl (hts _ q2_34) (kn_dec tX8_today 13 rfl) e_c_3 ?_
      have I : kn_I D tc (kn_A _ s.heap.size) s.heap ([(kState, ad_z, _), (kState, ad_s, _)] ++ (List.flatten [[(kTin, ad_t, _)], [(kScene, ad_c, _)], [(kHill, ad_h, _)], [(kWalk, ad_w, _)], kn_pool kRule gn_pr ad_pr _])) _ _ := I.perm (kn_segA (segs := [[(kTin, ad_t, _)], [(kScene, ad_c, _)], [(kHill, ad_h, _)], [(kState, ad_s, _)], [(kWalk, ad_w, _)], [(kState, ad_z, _)], kn_pool kRule gn_pr ad_pr _]) (sC := [[(kState, ad_z, _)], [(kState, ad_s, _)]]) (sR := [[(kTin, ad_t, _)], [(kScene, ad_c, _)], [(kHill, ad_h, _)], [(kWalk, ad_w, _)], kn_pool kRule gn_pr ad_pr _]) [5, 3, 0, 1, 2, 4, 6] rfl rfl)
      refine kw_callv (wc := [(kState, ad_z, _), (kState, ad_s, _)]) (wr := (List.flatten [[(kTin, ad_t, _)], [(kScene, ad_c, _)], [(kHill, ad_h, _)], [(kWalk, ad_w, _)], kn_pool kRule gn_pr ad_pr _])) I hA (kn_pl1 _ _) (kn_pl2 _ _) (kn_pl1_ok _ _) (kn_pl2_ok _ _) (kn_pl2_nd _ _) (kn_pl_dis _ _) (kn_runV (As := [.ref (ad_s 0)]) S0 hK hZ hA I ((ctX6_copy h).met _) (kn_cwV 1 hts q4_44 q3_171 q3_172 q1_8 q3_173 rfl rfl (by decide +kernel) ⟨(Nat.le_of_ble_eq_true rfl), (Nat.le_of_ble_eq_true rfl)⟩) (kn_pl1 _ _) (kn_pl1_ok _ _) (kn_pl1_nd _ _) 0 rfl rfl rfl rfl hl.1 rfl (Nat.le_of_ble_eq_true rfl) (kn_dec tX8_today 14 rfl) ⟨(Nat.le_of_ble_eq_true rfl), (Nat.le_of_ble_eq_true rfl)⟩) (fun u6 H locs h I => ?_)
      have I : kn_I D tc (kn_A _ s.heap.size) s.heap (List.flatten [[(kTin, ad_t, _)], [(kScene, ad_c, _)], [(kHill, ad_h, _)], [(kState, ad_s, _)], [(kWalk, ad_w, _)], [(kState, ad_z, _)], kn_pool kRule gn_pr ad_pr _]) _ _ := I.perm (kn_segB (sC := [[(kTin, ad_t, _)], [(kScene, ad_c, _)], [(kHill, ad_h, _)], [(kWalk, ad_w, _)], kn_pool kRule gn_pr ad_pr _]) (sR := [[(kState, ad_z, _)], [(kState, ad_s, _)]]) (segs := [[(kTin, ad_t, _)], [(kScene, ad_c, _)], [(kHill, ad_h, _)], [(kState, ad_s, _)], [(kWalk, ad_w, _)], [(kState, ad_z, _)], kn_pool kRule gn_pr ad_pr _]) [0, 1, 2, 6, 3, 5, 4] rfl rfl)
      refine lv_aload_n hx hb (kn_dec tX8_today 15 rfl) rfl (lv_at hl 0 rfl) ?_
      refine kw_getl hx hb hts inX8 hown hK I 0 rfl rfl 9 (by decide) rfl (hts _ q2_108) (kn_dec tX8_today 16 rfl) e_t_9 ?_
      refine kw_getl hx hb hts inX6 hown hK I 5 rfl rfl 6 (by decide) rfl (hts _ q2_0) (kn_dec tX8_today 17 rfl) rfl ?_
      refine lv_iload_n hx hb (kn_dec tX8_today 18 rfl) rfl (lv_at hl 1 rfl) ?_
      refine lv_iconst (v := (-1)) hx hb (kn_dec tX8_today 19 rfl) (by decide) ?_
      obtain ⟨hs7, h⟩ := h
      refine kw_iast hx hb hK I 5 rfl 6 4 (List.mem_of_getElem? (i := 3) rfl) ukState_6 hs7 (kn_dec tX8_today 20 rfl) (fun v_z8 ev_z8 H locs I => ?_)
      have h := h v_z8 ev_z8
      have I : kn_I D tc (kn_A _ s.heap.size) s.heap (List.flatten [[(kTin, ad_t, _)], [(kScene, ad_c, _)], [(kHill, ad_h, _)], [(kState, ad_s, _)], [(kWalk, ad_w, _)], [(kState, ad_z, _)], kn_pool kRule gn_pr ad_pr _]) _ _ := I
      refine lv_aload_n hx hb (kn_dec tX8_today 21 rfl) rfl (lv_at hl 0 rfl) ?_
      refine kw_getl hx hb hts inX8 hown hK I 0 rfl rfl 8 (by decide) rfl (hts _ q2_107) (kn_dec tX8_today 22 rfl) e_t_8 ?_
      refine lv_aload_n hx hb (kn_dec tX8_today 23 rfl) rfl (lv_at hl 0 rfl) ?_
      refine kw_getl hx hb hts inX8 hown hK I 0 rfl rfl 6 (by decide) rfl (hts _ q2_105) (kn_dec tX8_today 24 rfl) e_t_6 ?_
      refine kw_getl hx hb hts inX5 hown hK I 1 rfl rfl 0 (by decide) rfl (hts _ q2_28) (kn_dec tX8_today 25 rfl) e_c_0 ?_
      refine lv_aload_n hx hb (kn_dec tX8_today 26 rfl) rfl (lv_at hl 0 rfl) ?_
      have I : kn_I D tc (kn_A _ s.heap.size) s.heap ((List.flatten [[(kTin, ad_t, _)], [(kScene, ad_c, _)], kn_pool kRule gn_pr ad_pr _]) ++ (List.flatten [[(kHill, ad_h, _)], [(kState, ad_s, _)], [(kWalk, ad_w, _)], [(kState, ad_z, _)]])) _ _ := I.perm (kn_segA (segs := [[(kTin, ad_t, _)], [(kScene, ad_c, _)], [(kHill, ad_h, _)], [(kState, ad_s, _)], [(kWalk, ad_w, _)], [(kState, ad_z, _)], kn_pool kRule gn_pr ad_pr _]) (sC := [[(kTin, ad_t, _)], [(kScene, ad_c, _)], kn_pool kRule gn_pr ad_pr _]) (sR := [[(kHill, ad_h, _)], [(kState, ad_s, _)], [(kWalk, ad_w, _)], [(kState, ad_z, _)]]) [0, 1, 6, 2, 3, 4, 5] rfl rfl)
      refine kw_callq (wc := (List.flatten [[(kTin, ad_t, _)], [(kScene, ad_c, _)], kn_pool kRule gn_pr ad_pr _])) (wr := (List.flatten [[(kHill, ad_h, _)], [(kState, ad_s, _)], [(kWalk, ad_w, _)], [(kState, ad_z, _)]])) I hA (kn_pl1 _ _) (kn_pl2 _ _) (kn_pl1_ok _ _) (kn_pl2_ok _ _) (kn_pl2_nd _ _) (kn_pl_dis _ _) (kn_runV (As := []) S0 hK hZ hA I ((ctX8_ruleInForce e_t_6 p_t_4 h).met _) (kn_cwV 0 hts q3_175 q3_177 q0_14 q1_1 q3_178 rfl rfl (by decide +kernel) ⟨(Nat.le_of_ble_eq_true rfl), (Nat.le_of_ble_eq_true rfl)⟩) (kn_pl1 _ _) (kn_pl1_ok _ _) (kn_pl1_nd _ _) 0 rfl rfl rfl rfl hl.1 rfl (Nat.le_of_ble_eq_true rfl) (kn_dec tX8_today 27 rfl) ⟨(Nat.le_of_ble_eq_true rfl), (Nat.le_of_ble_eq_true rfl)⟩) (fun r9 u10 H locs h I => ?_)
      obtain ⟨r9, ho_r9, rfl, h⟩ := h
      have I : kn_I D tc (kn_A _ s.heap.size) s.heap (List.flatten [[(kTin, ad_t, _)], [(kScene, ad_c, _)], [(kHill, ad_h, _)], [(kState, ad_s, _)], [(kWalk, ad_w, _)], [(kState, ad_z, _)], kn_pool kRule gn_pr ad_pr _]) _ _ := I.perm (kn_segB (sC := [[(kHill, ad_h, _)], [(kState, ad_s, _)], [(kWalk, ad_w, _)], [(kState, ad_z, _)]]) (sR := [[(kTin, ad_t, _)], [(kScene, ad_c, _)], kn_pool kRule gn_pr ad_pr _]) (segs := [[(kTin, ad_t, _)], [(kScene, ad_c, _)], [(kHill, ad_h, _)], [(kState, ad_s, _)], [(kWalk, ad_w, _)], [(kState, ad_z, _)], kn_pool kRule gn_pr ad_pr _]) [4, 5, 0, 1, 2, 3, 6] rfl rfl)
      refine lv_aload_n hx hb (kn_dec tX8_today 28 rfl) rfl (lv_at hl 0 rfl) ?_
      refine kw_getl hx hb hts inX8 hown hK I 0 rfl rfl 9 (by decide) rfl (hts _ q2_108) (kn_dec tX8_today 29 rfl) e_t_9 ?_
      refine lv_iload_n hx hb (kn_dec tX8_today 30 rfl) rfl (lv_at hl 1 rfl) ?_
      rcases r9 with _ | i11
      · have h := h.1 rfl
        have I : kn_I D tc (kn_A _ s.heap.size) s.heap ([(kWalk, ad_w, _), (kHill, ad_h, _), (kState, ad_z, _)] ++ (List.flatten [[(kTin, ad_t, _)], [(kScene, ad_c, _)], [(kState, ad_s, _)], kn_pool kRule gn_pr ad_pr _])) _ _ := I.perm (kn_segA (segs := [[(kTin, ad_t, _)], [(kScene, ad_c, _)], [(kHill, ad_h, _)], [(kState, ad_s, _)], [(kWalk, ad_w, _)], [(kState, ad_z, _)], kn_pool kRule gn_pr ad_pr _]) (sC := [[(kWalk, ad_w, _)], [(kHill, ad_h, _)], [(kState, ad_z, _)]]) (sR := [[(kTin, ad_t, _)], [(kScene, ad_c, _)], [(kState, ad_s, _)], kn_pool kRule gn_pr ad_pr _]) [4, 2, 5, 0, 1, 3, 6] rfl rfl)
        refine kw_callv (wc := [(kWalk, ad_w, _), (kHill, ad_h, _), (kState, ad_z, _)]) (wr := (List.flatten [[(kTin, ad_t, _)], [(kScene, ad_c, _)], [(kState, ad_s, _)], kn_pool kRule gn_pr ad_pr _])) I hA (kn_pl1 _ _) (kn_pl2 _ _) (kn_pl1_ok _ _) (kn_pl2_ok _ _) (kn_pl2_nd _ _) (kn_pl_dis _ _) (kn_runV (As := [.ref (ad_h 0), .null, .ref (ad_z 0), .int _]) S0 hK hZ hA I ((ctX7_look_N h).met _) (kn_cwV 4 hts q4_53 q3_188 q3_189 q1_9 q3_190 rfl rfl (by decide +kernel) ⟨(Nat.le_of_ble_eq_true rfl), (Nat.le_of_ble_eq_true rfl)⟩) (kn_pl1 _ _) (kn_pl1_ok _ _) (kn_pl1_nd _ _) 0 rfl rfl rfl rfl hl.1 rfl (Nat.le_of_ble_eq_true rfl) (kn_dec tX8_today 31 rfl) ⟨(Nat.le_of_ble_eq_true rfl), (Nat.le_of_ble_eq_true rfl)⟩) (fun u13 H locs h I => ?_)
        have I : kn_I D tc (kn_A _ s.heap.size) s.heap (List.flatten [[(kTin, ad_t, _)], [(kScene, ad_c, _)], [(kHill, ad_h, _)], [(kState, ad_s, _)], [(kWalk, ad_w, _)], [(kState, ad_z, _)], kn_pool kRule gn_pr ad_pr _]) _ _ := I.perm (kn_segB (sC := [[(kTin, ad_t, _)], [(kScene, ad_c, _)], [(kState, ad_s, _)], kn_pool kRule gn_pr ad_pr _]) (sR := [[(kWalk, ad_w, _)], [(kHill, ad_h, _)], [(kState, ad_z, _)]]) (segs := [[(kTin, ad_t, _)], [(kScene, ad_c, _)], [(kHill, ad_h, _)], [(kState, ad_s, _)], [(kWalk, ad_w, _)], [(kState, ad_z, _)], kn_pool kRule gn_pr ad_pr _]) [0, 1, 5, 2, 4, 6, 3] rfl rfl)
        refine lv_iload_n hx hb (kn_dec tX8_today 32 rfl) rfl (lv_at hl 2 rfl) ?_
        refine lv_iconst (v := (-1)) hx hb (kn_dec tX8_today 33 rfl) (by decide) ?_
        refine lv_icmp_ne (tgt := 76) hx hb (kn_dec tX8_today 34 rfl) (by decide) (fun c14 => ?_) (fun c14 => ?_)
        · have h := h.1 c14
          refine lv_iload_n hx hb (kn_dec tX8_today 39 rfl) rfl (lv_at hl 2 rfl) ?_
          refine lv_aload_n hx hb (kn_dec tX8_today 40 rfl) rfl (lv_at hl 0 rfl) ?_
          refine kw_getl hx hb hts inX8 hown hK I 0 rfl rfl 8 (by decide) rfl (hts _ q2_107) (kn_dec tX8_today 41 rfl) e_t_8 ?_
          refine kw_geti hx hb hts inX7 hown hK I 4 rfl rfl 3 (by decide) rfl (hts _ q2_78) (kn_dec tX8_today 42 rfl) ?_
          refine lv_icmp_ge (tgt := 99) hx hb (kn_dec tX8_today 43 rfl) (by decide) (fun c15 => ?_) (fun c15 => ?_)
          · have h := h.1 c15
            refine lv_bipush (v := (-2)) hx hb (kn_dec tX8_today 50 rfl) (by decide) ?_
            exact kw_iret hx hb hr hlocks I (u13, v_z8, v_pr) rfl h (kn_dec tX8_today 51 rfl)
          · have h := h.2 c15
            refine lv_aload_n hx hb (kn_dec tX8_today 44 rfl) rfl (lv_at hl 0 rfl) ?_
            refine kw_getl hx hb hts inX8 hown hK I 0 rfl rfl 8 (by decide) rfl (hts _ q2_107) (kn_dec tX8_today 45 rfl) e_t_8 ?_
            refine kw_getl hx hb hts inX7 hown hK I 4 rfl rfl 2 (by decide) rfl (hts _ q2_76) (kn_dec tX8_today 46 rfl) rfl ?_
            refine lv_iload_n hx hb (kn_dec tX8_today 47 rfl) rfl (lv_at hl 2 rfl) ?_
            obtain ⟨hs16, h⟩ := h
            refine kw_iald hx hb hK I 4 rfl 2 10 (List.mem_of_getElem? (i := 2) rfl) hs16 (kn_dec tX8_today 48 rfl) ?_
            refine lv_goto (tgt := 101) hx hb (kn_dec tX8_today 49 rfl) (by decide) ?_
            exact kw_iret hx hb hr hlocks I (u13, v_z8, v_pr) rfl h (kn_dec tX8_today 51 rfl)
        · have h := h.2 c14
          refine lv_aload_n hx hb (kn_dec tX8_today 35 rfl) rfl (lv_at hl 0 rfl) ?_
          refine kw_getl hx hb hts inX8 hown hK I 0 rfl rfl 8 (by decide) rfl (hts _ q2_107) (kn_dec tX8_today 36 rfl) e_t_8 ?_
          refine kw_geti hx hb hts inX7 hown hK I 4 rfl rfl 4 (by decide) rfl (hts _ q2_80) (kn_dec tX8_today 37 rfl) ?_
          exact kw_iret hx hb hr hlocks I (u13, v_z8, v_pr) rfl h (kn_dec tX8_today 38 rfl)
      · have h := h.2 i11 rfl
        have hp_i11 := ho_r9 i11 rfl
        have I : kn_I D tc (kn_A _ s.heap.size) s.heap (List.flatten [[(kRule, ad_pr i11, _)], kn_rest kRule gn_pr ad_pr _ i11, [(kTin, ad_t, _)], [(kScene, ad_c, _)], [(kHill, ad_h, _)], [(kState, ad_s, _)], [(kWalk, ad_w, _)], [(kState, ad_z, _)]]) _ _ := I.perm ((kn_seg (segs := [[(kTin, ad_t, _)], [(kScene, ad_c, _)], [(kHill, ad_h, _)], [(kState, ad_s, _)], [(kWalk, ad_w, _)], [(kState, ad_z, _)], kn_pool kRule gn_pr ad_pr _]) (segs' := [kn_pool kRule gn_pr ad_pr _, [(kTin, ad_t, _)], [(kScene, ad_c, _)], [(kHill, ad_h, _)], [(kState, ad_s, _)], [(kWalk, ad_w, _)], [(kState, ad_z, _)]]) [6, 0, 1, 2, 3, 4, 5] rfl rfl).trans (kn_focus hp_i11))
        have I : kn_I D tc (kn_A _ s.heap.size) s.heap ([(kWalk, ad_w, _), (kHill, ad_h, _), (kRule, ad_pr i11, _), (kState, ad_z, _)] ++ (List.flatten [kn_rest kRule gn_pr ad_pr _ i11, [(kTin, ad_t, _)], [(kScene, ad_c, _)], [(kState, ad_s, _)]])) _ _ := I.perm (kn_segA (segs := [[(kRule, ad_pr i11, _)], kn_rest kRule gn_pr ad_pr _ i11, [(kTin, ad_t, _)], [(kScene, ad_c, _)], [(kHill, ad_h, _)], [(kState, ad_s, _)], [(kWalk, ad_w, _)], [(kState, ad_z, _)]]) (sC := [[(kWalk, ad_w, _)], [(kHill, ad_h, _)], [(kRule, ad_pr i11, _)], [(kState, ad_z, _)]]) (sR := [kn_rest kRule gn_pr ad_pr _ i11, [(kTin, ad_t, _)], [(kScene, ad_c, _)], [(kState, ad_s, _)]]) [6, 4, 0, 7, 1, 2, 3, 5] rfl rfl)
        refine kw_callv (wc := [(kWalk, ad_w, _), (kHill, ad_h, _), (kRule, ad_pr i11, _), (kState, ad_z, _)]) (wr := (List.flatten [kn_rest kRule gn_pr ad_pr _ i11, [(kTin, ad_t, _)], [(kScene, ad_c, _)], [(kState, ad_s, _)]])) I hA (kn_pl1 _ _) (kn_pl2 _ _) (kn_pl1_ok _ _) (kn_pl2_ok _ _) (kn_pl2_nd _ _) (kn_pl_dis _ _) (kn_runV (As := [.ref (ad_h 0), .ref (ad_pr i11 0), .ref (ad_z 0), .int _]) S0 hK hZ hA I ((ctX7_look_R h).met _) (kn_cwV 4 hts q4_53 q3_188 q3_189 q1_9 q3_190 rfl rfl (by decide +kernel) ⟨(Nat.le_of_ble_eq_true rfl), (Nat.le_of_ble_eq_true rfl)⟩) (kn_pl1 _ _) (kn_pl1_ok _ _) (kn_pl1_nd _ _) 0 rfl rfl rfl rfl hl.1 rfl (Nat.le_of_ble_eq_true rfl) (kn_dec tX8_today 31 rfl) ⟨(Nat.le_of_ble_eq_true rfl), (Nat.le_of_ble_eq_true rfl)⟩) (fun u19 H locs h I => ?_)
        have I : kn_I D tc (kn_A _ s.heap.size) s.heap (List.flatten [[(kTin, ad_t, _)], [(kScene, ad_c, _)], [(kHill, ad_h, _)], [(kState, ad_s, _)], [(kWalk, ad_w, _)], [(kState, ad_z, _)], kn_pool kRule gn_pr ad_pr _]) _ _ := I.perm ((kn_segB (sC := [kn_rest kRule gn_pr ad_pr _ i11, [(kTin, ad_t, _)], [(kScene, ad_c, _)], [(kState, ad_s, _)]]) (sR := [[(kWalk, ad_w, _)], [(kHill, ad_h, _)], [(kRule, ad_pr i11, _)], [(kState, ad_z, _)]]) (segs := [[(kRule, ad_pr i11, _)], kn_rest kRule gn_pr ad_pr _ i11, [(kTin, ad_t, _)], [(kScene, ad_c, _)], [(kHill, ad_h, _)], [(kState, ad_s, _)], [(kWalk, ad_w, _)], [(kState, ad_z, _)]]) [6, 0, 1, 2, 5, 3, 4, 7] rfl rfl).trans ((kn_unfocus hp_i11).trans (kn_seg (segs := [kn_pool kRule gn_pr ad_pr _, [(kTin, ad_t, _)], [(kScene, ad_c, _)], [(kHill, ad_h, _)], [(kState, ad_s, _)], [(kWalk, ad_w, _)], [(kState, ad_z, _)]]) (segs' := [[(kTin, ad_t, _)], [(kScene, ad_c, _)], [(kHill, ad_h, _)], [(kState, ad_s, _)], [(kWalk, ad_w, _)], [(kState, ad_z, _)], kn_pool kRule gn_pr ad_pr _]) [1, 2, 3, 4, 5, 6, 0] rfl rfl)))
        refine lv_iload_n hx hb (kn_dec tX8_today 32 rfl) rfl (lv_at hl 2 rfl) ?_
        refine lv_iconst (v := (-1)) hx hb (kn_dec tX8_today 33 rfl) (by decide) ?_
        refine lv_icmp_ne (tgt := 76) hx hb (kn_dec tX8_today 34 rfl) (by decide) (fun c20 => ?_) (fun c20 => ?_)
        · have h := h.1 c20
          refine lv_iload_n hx hb (kn_dec tX8_today 39 rfl) rfl (lv_at hl 2 rfl) ?_
          refine lv_aload_n hx hb (kn_dec tX8_today 40 rfl) rfl (lv_at hl 0 rfl) ?_
          refine kw_getl hx hb hts inX8 hown hK I 0 rfl rfl 8 (by decide) rfl (hts _ q2_107) (kn_dec tX8_today 41 rfl) e_t_8 ?_
          refine kw_geti hx hb hts inX7 hown hK I 4 rfl rfl 3 (by decide) rfl (hts _ q2_78) (kn_dec tX8_today 42 rfl) ?_
          refine lv_icmp_ge (tgt := 99) hx hb (kn_dec tX8_today 43 rfl) (by decide) (fun c21 => ?_) (fun c21 => ?_)
          · have h := h.1 c21
            refine lv_bipush (v := (-2)) hx hb (kn_dec tX8_today 50 rfl) (by decide) ?_
            exact kw_iret hx hb hr hlocks I (u19.1, v_z8, (va_up v_pr i11 u19.2)) rfl h (kn_dec tX8_today 51 rfl)
          · have h := h.2 c21
            refine lv_aload_n hx hb (kn_dec tX8_today 44 rfl) rfl (lv_at hl 0 rfl) ?_
            refine kw_getl hx hb hts inX8 hown hK I 0 rfl rfl 8 (by decide) rfl (hts _ q2_107) (kn_dec tX8_today 45 rfl) e_t_8 ?_
            refine kw_getl hx hb hts inX7 hown hK I 4 rfl rfl 2 (by decide) rfl (hts _ q2_76) (kn_dec tX8_today 46 rfl) rfl ?_
            refine lv_iload_n hx hb (kn_dec tX8_today 47 rfl) rfl (lv_at hl 2 rfl) ?_
            obtain ⟨hs22, h⟩ := h
            refine kw_iald hx hb hK I 4 rfl 2 10 (List.mem_of_getElem? (i := 2) rfl) hs22 (kn_dec tX8_today 48 rfl) ?_
            refine lv_goto (tgt := 101) hx hb (kn_dec tX8_today 49 rfl) (by decide) ?_
            exact kw_iret hx hb hr hlocks I (u19.1, v_z8, (va_up v_pr i11 u19.2)) rfl h (kn_dec tX8_today 51 rfl)
        · have h := h.2 c20
          refine lv_aload_n hx hb (kn_dec tX8_today 35 rfl) rfl (lv_at hl 0 rfl) ?_
          refine kw_getl hx hb hts inX8 hown hK I 0 rfl rfl 8 (by decide) rfl (hts _ q2_107) (kn_dec tX8_today 36 rfl) e_t_8 ?_
          refine kw_geti hx hb hts inX7 hown hK I 4 rfl rfl 4 (by decide) rfl (hts _ q2_80) (kn_dec tX8_today 37 rfl) ?_
          exact kw_iret hx hb hr hlocks I (u19.1, v_z8, (va_up v_pr i11 u19.2)) rfl h (kn_dec tX8_today 38 rfl)
    · have h := h.2 c4
      refine lv_bipush (v := (-3)) hx hb (kn_dec tX8_today 7 rfl) (by decide) ?_
      exact kw_iret hx hb hr hlocks I (v_w, v_z, v_pr) rfl h (kn_dec tX8_today 8 rfl)

/-! X8_first -/
abbrev rmX8_first : Room := { frames := 7, cells := 0, slots := 0, locals := 191 }
def PX8_first_L26 (v_t : OV) (v_c : OV) (v_h : OV) (v_s : OV) (gn_pr : Nat)  (post : Int32 → OV → OV → (Nat → OV) → Prop) : Nat → Int32 → Int32 → OV → OV → (Nat → OV) → Prop
  | 0, _, _, _, _, _ => False
  | n + 1, y1, y2, v_w, v_z, v_pr => ((((60 : Int32)) ≤ y2 → post ((-2 : Int32)) v_w v_z v_pr) ∧ (¬ ((60 : Int32)) ≤ y2 → (∀ x2 : Int32, x2 = (v_z.1 0) → (PX8_goOn v_t v_c v_h v_w v_z v_pr gn_pr ((1 : Int32)) (fun r6 v_w3 v_z4 v_pr5 => ((r6 ≤ ((0 : Int32)) → (∀ x9 : Int32, x9 = y2 + (1 : Int32) → PX8_first_L26 v_t v_c v_h v_s gn_pr post n y1 x9 v_w3 v_z4 v_pr5)) ∧ (¬ r6 ≤ ((0 : Int32)) → ((¬ y1 = ((0 : Int32)) → post x2 v_w3 v_z4 v_pr5) ∧ (y1 = ((0 : Int32)) → (PX6_finderOn v_z4 x2 (fun r11 => post r11 v_w3 v_z4 v_pr5)))))))))))
set_option maxRecDepth 100000 in
set_option maxHeartbeats 1000000 in
theorem wX8_first_L26 {v_t : OV} {v_c : OV} {v_h : OV} {v_s : OV} {gn_pr : Nat}  {post : Int32 → OV → OV → (Nat → OV) → Prop} {ad_t : Nat → Nat} {ad_c : Nat → Nat} {ad_h : Nat → Nat} {ad_s : Nat → Nat} {ad_w : Nat → Nat} {ad_z : Nat → Nat} {ad_pr : Nat → Nat → Nat} (X : kn_X p s m args meth c cX8_first 4 (some .int) RX8 kn_all D tc Z (kn_A w0 s.heap.size)) (e_t_6 : ad_t (6 + 1) = ad_c 0) (e_c_0 : ad_c (0 + 1) = ad_h 0) (e_c_3 : ad_c (3 + 1) = ad_s 0) (e_t_8 : ad_t (8 + 1) = ad_w 0) (e_t_9 : ad_t (9 + 1) = ad_z 0) (p_t_4 : ∀ i, i < gn_pr → kn_q ad_t 4 i = some (ad_pr i 0))   : ∀ n : Nat, ∀ (H : Heap) (locs : List Loc) (ls : Array Slot) (y1 : Int32) (y2 : Int32) (v_w : OV) (v_z : OV) (v_pr : (Nat → OV)), kn_I D tc (kn_A w0 s.heap.size) s.heap (List.flatten [[(kTin, ad_t, v_t)], [(kScene, ad_c, v_c)], [(kHill, ad_h, v_h)], [(kState, ad_s, v_s)], [(kWalk, ad_w, v_w)], [(kState, ad_z, v_z)], kn_pool kRule gn_pr ad_pr v_pr]) H locs → lv_has ls 4 [(0, .ref (ad_t 0)), (1, .int y1), (2, .int y2)] → PX8_first_L26 v_t v_c v_h v_s gn_pr post n y1 y2 v_w v_z v_pr → W p l e rmX8_first s m args below meth c H locs 0 0 (kn_Qi D tc w0 (fun (u : OV × OV × (Nat → OV)) => (List.flatten [[(kTin, ad_t, v_t)], [(kScene, ad_c, v_c)], [(kHill, ad_h, v_h)], [(kState, ad_s, v_s)], [(kWalk, ad_w, u.1)], [(kState, ad_z, u.2.1)], kn_pool kRule gn_pr ad_pr u.2.2])) (fun (r : Int32) (u : OV × OV × (Nat → OV)) => post r u.1 u.2.1 u.2.2) below args s 0 0) (F0 m 26 ls []) := by
  obtain ⟨S0, hr, hlocks, hK, hZ, hA⟩ := id X
  obtain ⟨hx, hb, hml, hown, hts⟩ := id S0
  intro n
  induction n with
  | zero =>
    intro H locs ls y1 y2 v_w v_z v_pr I hl h
    unfold PX8_first_L26 at h
    exact h.elim
  | succ n ih =>
    intro H locs ls y1 y2 v_w v_z v_pr I hl h
    unfold PX8_first_L26 at h
    refine lv_iload_n hx hb (kn_dec tX8_first 14 rfl) rfl (lv_at hl 2 rfl) ?_
    refine lv_bipush (v := (60)) hx hb (kn_dec tX8_first 15 rfl) (by decide) ?_
    refine lv_icmp_ge (tgt := 71) hx hb (kn_dec tX8_first 16 rfl) (by decide) (fun c1 => ?_) (fun c1 => ?_)
    · have h := h.1 c1
      refine lv_bipush (v := (-2)) hx hb (kn_dec tX8_first 36 rfl) (by decide) ?_
      exact kw_iret hx hb hr hlocks I (v_w, v_z, v_pr) rfl h (kn_dec tX8_first 37 rfl)
    · have h := h.2 c1
      refine lv_aload_n hx hb (kn_dec tX8_first 17 rfl) rfl (lv_at hl 0 rfl) ?_
      refine kw_getl hx hb hts inX8 hown hK I 0 rfl rfl 9 (by decide) rfl (hts _ q2_108) (kn_dec tX8_first 18 rfl) e_t_9 ?_
      refine kw_geti hx hb hts inX6 hown hK I 5 rfl rfl 0 (by decide) rfl (hts _ q1_221) (kn_dec tX8_first 19 rfl) ?_
      refine lv_topi (fun x2 ex2 => ?_)
      have h := h x2 ex2
      refine lv_istore_n (lv' := [(3, .int _), (0, .ref (ad_t 0)), (1, .int _), (2, .int _)]) hx hb (kn_dec tX8_first 20 rfl) rfl hl (by decide) rfl (fun ls hl => ?_)
      refine lv_aload_n hx hb (kn_dec tX8_first 21 rfl) rfl (lv_at hl 1 rfl) ?_
      refine lv_iconst (v := (1)) hx hb (kn_dec tX8_first 22 rfl) (by decide) ?_
      have I : kn_I D tc (kn_A w0 s.heap.size) s.heap ((List.flatten [[(kTin, ad_t, _)], [(kScene, ad_c, _)], [(kHill, ad_h, _)], [(kWalk, ad_w, _)], [(kState, ad_z, _)], kn_pool kRule gn_pr ad_pr _]) ++ (List.flatten [[(kState, ad_s, _)]])) _ _ := I.perm (kn_segA (segs := [[(kTin, ad_t, _)], [(kScene, ad_c, _)], [(kHill, ad_h, _)], [(kState, ad_s, _)], [(kWalk, ad_w, _)], [(kState, ad_z, _)], kn_pool kRule gn_pr ad_pr _]) (sC := [[(kTin, ad_t, _)], [(kScene, ad_c, _)], [(kHill, ad_h, _)], [(kWalk, ad_w, _)], [(kState, ad_z, _)], kn_pool kRule gn_pr ad_pr _]) (sR := [[(kState, ad_s, _)]]) [0, 1, 2, 4, 5, 6, 3] rfl rfl)
      refine kw_calli (wc := (List.flatten [[(kTin, ad_t, _)], [(kScene, ad_c, _)], [(kHill, ad_h, _)], [(kWalk, ad_w, _)], [(kState, ad_z, _)], kn_pool kRule gn_pr ad_pr _])) (wr := (List.flatten [[(kState, ad_s, _)]])) I hA (kn_pl1 _ _) (kn_pl2 _ _) (kn_pl1_ok _ _) (kn_pl2_ok _ _) (kn_pl2_nd _ _) (kn_pl_dis _ _) (kn_runV (As := [.int _]) S0 hK hZ hA I ((ctX8_goOn e_t_6 e_c_0 e_t_8 e_t_9 p_t_4 h).met _) (kn_cwV 1 hts q4_45 q4_47 q0_21 q1_1 q4_48 rfl rfl (by decide +kernel) ⟨(Nat.le_of_ble_eq_true rfl), (Nat.le_of_ble_eq_true rfl)⟩) (kn_pl1 _ _) (kn_pl1_ok _ _) (kn_pl1_nd _ _) 0 rfl rfl rfl rfl hl.1 rfl (Nat.le_of_ble_eq_true rfl) (kn_dec tX8_first 23 rfl) ⟨(Nat.le_of_ble_eq_true rfl), (Nat.le_of_ble_eq_true rfl)⟩) (fun r6 u7 H locs h I => ?_)
      have I : kn_I D tc (kn_A w0 s.heap.size) s.heap (List.flatten [[(kTin, ad_t, _)], [(kScene, ad_c, _)], [(kHill, ad_h, _)], [(kState, ad_s, _)], [(kWalk, ad_w, _)], [(kState, ad_z, _)], kn_pool kRule gn_pr ad_pr _]) _ _ := I.perm (kn_segB (sC := [[(kState, ad_s, _)]]) (sR := [[(kTin, ad_t, _)], [(kScene, ad_c, _)], [(kHill, ad_h, _)], [(kWalk, ad_w, _)], [(kState, ad_z, _)], kn_pool kRule gn_pr ad_pr _]) (segs := [[(kTin, ad_t, _)], [(kScene, ad_c, _)], [(kHill, ad_h, _)], [(kState, ad_s, _)], [(kWalk, ad_w, _)], [(kState, ad_z, _)], kn_pool kRule gn_pr ad_pr _]) [1, 2, 3, 0, 4, 5, 6] rfl rfl)
      refine lv_if_le (tgt := 65) hx hb (kn_dec tX8_first 24 rfl) (by decide) (fun c8 => ?_) (fun c8 => ?_)
      · have h := h.1 c8
        refine kw_iinc (lvf := fun y => [(2, .int y), (3, .int _), (0, .ref (ad_t 0)), (1, .int _)]) (nv := (1)) hx hb (kn_dec tX8_first 34 rfl) hl (k := 3) rfl (by decide) (by decide) (fun _ => rfl) (fun x9 ex9 ls hl => ?_)
        have h := h x9 ex9
        refine lv_goto (tgt := 26) hx hb (kn_dec tX8_first 35 rfl) (by decide) ?_
        exact ih _ _ _ _ _ _ _ _  I (lv_sub hl [2, 3, 0] rfl) h
      · have h := h.2 c8
        refine lv_iload_n hx hb (kn_dec tX8_first 25 rfl) rfl (lv_at hl 2 rfl) ?_
        refine lv_if_ne (tgt := 63) hx hb (kn_dec tX8_first 26 rfl) (by decide) (fun c10 => ?_) (fun c10 => ?_)
        · have h := h.1 c10
          refine lv_iload_n hx hb (kn_dec tX8_first 32 rfl) rfl (lv_at hl 0 rfl) ?_
          exact kw_iret hx hb hr hlocks I (u7.1, u7.2.1, u7.2.2) rfl h (kn_dec tX8_first 33 rfl)
        · have h := h.2 c10
          refine lv_aload_n hx hb (kn_dec tX8_first 27 rfl) rfl (lv_at hl 1 rfl) ?_
          refine kw_getl hx hb hts inX8 hown hK I 0 rfl rfl 9 (by decide) rfl (hts _ q2_108) (kn_dec tX8_first 28 rfl) e_t_9 ?_
          refine lv_iload_n hx hb (kn_dec tX8_first 29 rfl) rfl (lv_at hl 0 rfl) ?_
          have I : kn_I D tc (kn_A w0 s.heap.size) s.heap ([(kState, ad_z, _)] ++ (List.flatten [[(kTin, ad_t, _)], [(kScene, ad_c, _)], [(kHill, ad_h, _)], [(kState, ad_s, _)], [(kWalk, ad_w, _)], kn_pool kRule gn_pr ad_pr _])) _ _ := I.perm (kn_segA (segs := [[(kTin, ad_t, _)], [(kScene, ad_c, _)], [(kHill, ad_h, _)], [(kState, ad_s, _)], [(kWalk, ad_w, _)], [(kState, ad_z, _)], kn_pool kRule gn_pr ad_pr _]) (sC := [[(kState, ad_z, _)]]) (sR := [[(kTin, ad_t, _)], [(kScene, ad_c, _)], [(kHill, ad_h, _)], [(kState, ad_s, _)], [(kWalk, ad_w, _)], kn_pool kRule gn_pr ad_pr _]) [5, 0, 1, 2, 3, 4, 6] rfl rfl)
          refine kw_calli (wc := [(kState, ad_z, _)]) (wr := (List.flatten [[(kTin, ad_t, _)], [(kScene, ad_c, _)], [(kHill, ad_h, _)], [(kState, ad_s, _)], [(kWalk, ad_w, _)], kn_pool kRule gn_pr ad_pr _])) I hA (kn_pl1 _ _) (kn_pl2 _ _) (kn_pl1_ok _ _) (kn_pl2_ok _ _) (kn_pl2_nd _ _) (kn_pl_dis _ _) (kn_runV (As := [.int _]) S0 hK hZ hA I ((ctX6_finderOn h).met _) (kn_cwV 1 hts q4_65 q4_66 q4_67 q1_8 q4_68 rfl rfl (by decide +kernel) ⟨(Nat.le_of_ble_eq_true rfl), (Nat.le_of_ble_eq_true rfl)⟩) (kn_pl1 _ _) (kn_pl1_ok _ _) (kn_pl1_nd _ _) 0 rfl rfl rfl rfl hl.1 rfl (Nat.le_of_ble_eq_true rfl) (kn_dec tX8_first 30 rfl) ⟨(Nat.le_of_ble_eq_true rfl), (Nat.le_of_ble_eq_true rfl)⟩) (fun r11 u12 H locs h I => ?_)
          have I : kn_I D tc (kn_A w0 s.heap.size) s.heap (List.flatten [[(kTin, ad_t, _)], [(kScene, ad_c, _)], [(kHill, ad_h, _)], [(kState, ad_s, _)], [(kWalk, ad_w, _)], [(kState, ad_z, _)], kn_pool kRule gn_pr ad_pr _]) _ _ := I.perm (kn_segB (sC := [[(kTin, ad_t, _)], [(kScene, ad_c, _)], [(kHill, ad_h, _)], [(kState, ad_s, _)], [(kWalk, ad_w, _)], kn_pool kRule gn_pr ad_pr _]) (sR := [[(kState, ad_z, _)]]) (segs := [[(kTin, ad_t, _)], [(kScene, ad_c, _)], [(kHill, ad_h, _)], [(kState, ad_s, _)], [(kWalk, ad_w, _)], [(kState, ad_z, _)], kn_pool kRule gn_pr ad_pr _]) [0, 1, 2, 3, 4, 6, 5] rfl rfl)
          refine lv_goto (tgt := 64) hx hb (kn_dec tX8_first 31 rfl) (by decide) ?_
          exact kw_iret hx hb hr hlocks I (u7.1, u7.2.1, u7.2.2) rfl h (kn_dec tX8_first 33 rfl)
def PX8_first  (v_t : OV) (v_c : OV) (v_h : OV) (v_s : OV) (v_w : OV) (v_z : OV) (v_pr : (Nat → OV)) (gn_pr : Nat) (a1 : Int32) (post : Int32 → OV → OV → (Nat → OV) → Prop) : Prop := (PX8_isTold v_t v_c v_h a1 (fun r1 => ((¬ r1 = ((0 : Int32)) → (PX6_copy v_z v_s (fun v_z4 => (∃ n6 : Nat, PX8_first_L26 v_t v_c v_h v_s gn_pr post n6 a1 ((0 : Int32)) v_w v_z4 v_pr)))) ∧ (r1 = ((0 : Int32)) → post ((-1 : Int32)) v_w v_z v_pr))))
set_option maxRecDepth 100000 in
set_option maxHeartbeats 1000000 in
theorem ctX8_first {l : Launch} {D : va_G} {tc : Nat → ClassId} {Z : (Nat → Nat) × (Nat → Nat)}  {ad_t : Nat → Nat} {ad_c : Nat → Nat} {ad_h : Nat → Nat} {ad_s : Nat → Nat} {ad_w : Nat → Nat} {ad_z : Nat → Nat} {ad_pr : Nat → Nat → Nat} {v_t : OV} {v_c : OV} {v_h : OV} {v_s : OV} {v_w : OV} {v_z : OV} {v_pr : (Nat → OV)} {gn_pr : Nat} {a1 : Int32} (e_t_6 : ad_t (6 + 1) = ad_c 0) (e_c_0 : ad_c (0 + 1) = ad_h 0) (e_c_3 : ad_c (3 + 1) = ad_s 0) (e_t_8 : ad_t (8 + 1) = ad_w 0) (e_t_9 : ad_t (9 + 1) = ad_z 0) (p_t_4 : ∀ i, i < gn_pr → kn_q ad_t 4 i = some (ad_pr i 0))   {post : Int32 → OV → OV → (Nat → OV) → Prop} (h : PX8_first  v_t v_c v_h v_s v_w v_z v_pr gn_pr a1 post) : CTi l D tc Z yX8_first (Cond.code yX8_first cX8_first 4 (some .int) :: kn_all) rmX8_first 0 0 [.ref (ad_t 0), .int a1] (List.flatten [[(kTin, ad_t, v_t)], [(kScene, ad_c, v_c)], [(kHill, ad_h, v_h)], [(kState, ad_s, v_s)], [(kWalk, ad_w, v_w)], [(kState, ad_z, v_z)], kn_pool kRule gn_pr ad_pr v_pr]) (fun (u : OV × OV × (Nat → OV)) => (List.flatten [[(kTin, ad_t, v_t)], [(kScene, ad_c, v_c)], [(kHill, ad_h, v_h)], [(kState, ad_s, v_s)], [(kWalk, ad_w, u.1)], [(kState, ad_z, u.2.1)], kn_pool kRule gn_pr ad_pr u.2.2])) (fun (r : Int32) (u : OV × OV × (Nat → OV)) => post r u.1 u.2.1 u.2.2) := by
  refine kn_ofi (cc := cX8_first) (nL := 4) (ret := (some .int)) (lv := [(0, .ref (ad_t 0)), (1, .int a1)]) (by decide) (Nat.le_of_ble_eq_true rfl) rfl (fun p e s m below meth c ls X I hl _ => ?_)
  obtain ⟨S0, hr, hlocks, hK, hZ, hA⟩ := id X
  obtain ⟨hx, hb, hml, hown, hts⟩ := id S0
  unfold PX8_first at h
  refine lv_aload_n hx hb (kn_dec tX8_first 0 rfl) rfl (lv_at hl 0 rfl) ?_
  refine lv_iload_n hx hb (kn_dec tX8_first 1 rfl) rfl (lv_at hl 1 rfl) ?_
  have I : kn_I D tc (kn_A _ s.heap.size) s.heap ([(kTin, ad_t, _), (kScene, ad_c, _), (kHill, ad_h, _)] ++ (List.flatten [[(kState, ad_s, _)], [(kWalk, ad_w, _)], [(kState, ad_z, _)], kn_pool kRule gn_pr ad_pr _])) _ _ := I.perm (kn_segA (segs := [[(kTin, ad_t, _)], [(kScene, ad_c, _)], [(kHill, ad_h, _)], [(kState, ad_s, _)], [(kWalk, ad_w, _)], [(kState, ad_z, _)], kn_pool kRule gn_pr ad_pr _]) (sC := [[(kTin, ad_t, _)], [(kScene, ad_c, _)], [(kHill, ad_h, _)]]) (sR := [[(kState, ad_s, _)], [(kWalk, ad_w, _)], [(kState, ad_z, _)], kn_pool kRule gn_pr ad_pr _]) [0, 1, 2, 3, 4, 5, 6] rfl rfl)
  refine kw_calli (wc := [(kTin, ad_t, _), (kScene, ad_c, _), (kHill, ad_h, _)]) (wr := (List.flatten [[(kState, ad_s, _)], [(kWalk, ad_w, _)], [(kState, ad_z, _)], kn_pool kRule gn_pr ad_pr _])) I hA (kn_pl1 _ _) (kn_pl2 _ _) (kn_pl1_ok _ _) (kn_pl2_ok _ _) (kn_pl2_nd _ _) (kn_pl_dis _ _) (kn_runV (As := [.int _]) S0 hK hZ hA I ((ctX8_isTold e_t_6 e_c_0 h).met _) (kn_cwV 1 hts q4_58 q4_60 q0_22 q1_1 q4_61 rfl rfl (by decide +kernel) ⟨(Nat.le_of_ble_eq_true rfl), (Nat.le_of_ble_eq_true rfl)⟩) (kn_pl1 _ _) (kn_pl1_ok _ _) (kn_pl1_nd _ _) 0 rfl rfl rfl rfl hl.1 rfl (Nat.le_of_ble_eq_true rfl) (kn_dec tX8_first 2 rfl) ⟨(Nat.le_of_ble_eq_true rfl), (Nat.le_of_ble_eq_true rfl)⟩) (fun r1 u2 H locs h I => ?_)
  obtain ⟨hz_r1, h⟩ := h
  have I : kn_I D tc (kn_A _ s.heap.size) s.heap (List.flatten [[(kTin, ad_t, _)], [(kScene, ad_c, _)], [(kHill, ad_h, _)], [(kState, ad_s, _)], [(kWalk, ad_w, _)], [(kState, ad_z, _)], kn_pool kRule gn_pr ad_pr _]) _ _ := I.perm (kn_segB (sC := [[(kState, ad_s, _)], [(kWalk, ad_w, _)], [(kState, ad_z, _)], kn_pool kRule gn_pr ad_pr _]) (sR := [[(kTin, ad_t, _)], [(kScene, ad_c, _)], [(kHill, ad_h, _)]]) (segs := [[(kTin, ad_t, _)], [(kScene, ad_c, _)], [(kHill, ad_h, _)], [(kState, ad_s, _)], [(kWalk, ad_w, _)], [(kState, ad_z, _)], kn_pool kRule gn_pr ad_pr _]) [4, 5, 6, 0, 1, 2, 3] rfl rfl)
  refine lv_if_ne (tgt := 10) hx hb (kn_dec tX8_first 3 rfl) (by decide) (fun c3 => ?_) (fun c3 => ?_)
  · have h := h.1 c3
    refine lv_aload_n hx hb (kn_dec tX8_first 6 rfl) rfl (lv_at hl 0 rfl) ?_
    refine kw_getl hx hb hts inX8 hown hK I 0 rfl rfl 9 (by decide) rfl (hts _ q2_108) (kn_dec tX8_first 7 rfl) e_t_9 ?_
    refine lv_aload_n hx hb (kn_dec tX8_first 8 rfl) rfl (lv_at hl 0 rfl) ?_
    refine kw_getl hx hb hts inX8 hown hK I 0 rfl rfl 6 (by decide) rfl (hts _ q2_105) (kn_dec tX8_first 9 rfl) e_t_6 ?_
    refine kw_getl hx hb hts inX5 hown hK I 1 rfl rfl 3 (by decide) rfl (hts _ q2_34) (kn_dec tX8_first 10 rfl) e_c_3 ?_
    have I : kn_I D tc (kn_A _ s.heap.size) s.heap ([(kState, ad_z, _), (kState, ad_s, _)] ++ (List.flatten [[(kTin, ad_t, _)], [(kScene, ad_c, _)], [(kHill, ad_h, _)], [(kWalk, ad_w, _)], kn_pool kRule gn_pr ad_pr _])) _ _ := I.perm (kn_segA (segs := [[(kTin, ad_t, _)], [(kScene, ad_c, _)], [(kHill, ad_h, _)], [(kState, ad_s, _)], [(kWalk, ad_w, _)], [(kState, ad_z, _)], kn_pool kRule gn_pr ad_pr _]) (sC := [[(kState, ad_z, _)], [(kState, ad_s, _)]]) (sR := [[(kTin, ad_t, _)], [(kScene, ad_c, _)], [(kHill, ad_h, _)], [(kWalk, ad_w, _)], kn_pool kRule gn_pr ad_pr _]) [5, 3, 0, 1, 2, 4, 6] rfl rfl)
    refine kw_callv (wc := [(kState, ad_z, _), (kState, ad_s, _)]) (wr := (List.flatten [[(kTin, ad_t, _)], [(kScene, ad_c, _)], [(kHill, ad_h, _)], [(kWalk, ad_w, _)], kn_pool kRule gn_pr ad_pr _])) I hA (kn_pl1 _ _) (kn_pl2 _ _) (kn_pl1_ok _ _) (kn_pl2_ok _ _) (kn_pl2_nd _ _) (kn_pl_dis _ _) (kn_runV (As := [.ref (ad_s 0)]) S0 hK hZ hA I ((ctX6_copy h).met _) (kn_cwV 1 hts q4_44 q3_171 q3_172 q1_8 q3_173 rfl rfl (by decide +kernel) ⟨(Nat.le_of_ble_eq_true rfl), (Nat.le_of_ble_eq_true rfl)⟩) (kn_pl1 _ _) (kn_pl1_ok _ _) (kn_pl1_nd _ _) 0 rfl rfl rfl rfl hl.1 rfl (Nat.le_of_ble_eq_true rfl) (kn_dec tX8_first 11 rfl) ⟨(Nat.le_of_ble_eq_true rfl), (Nat.le_of_ble_eq_true rfl)⟩) (fun u5 H locs h I => ?_)
    have I : kn_I D tc (kn_A _ s.heap.size) s.heap (List.flatten [[(kTin, ad_t, _)], [(kScene, ad_c, _)], [(kHill, ad_h, _)], [(kState, ad_s, _)], [(kWalk, ad_w, _)], [(kState, ad_z, _)], kn_pool kRule gn_pr ad_pr _]) _ _ := I.perm (kn_segB (sC := [[(kTin, ad_t, _)], [(kScene, ad_c, _)], [(kHill, ad_h, _)], [(kWalk, ad_w, _)], kn_pool kRule gn_pr ad_pr _]) (sR := [[(kState, ad_z, _)], [(kState, ad_s, _)]]) (segs := [[(kTin, ad_t, _)], [(kScene, ad_c, _)], [(kHill, ad_h, _)], [(kState, ad_s, _)], [(kWalk, ad_w, _)], [(kState, ad_z, _)], kn_pool kRule gn_pr ad_pr _]) [0, 1, 2, 6, 3, 5, 4] rfl rfl)
    refine lv_iconst (v := (0)) hx hb (kn_dec tX8_first 12 rfl) (by decide) ?_
    refine lv_istore_n (lv' := [(2, .int _), (0, .ref (ad_t 0)), (1, .int _)]) hx hb (kn_dec tX8_first 13 rfl) rfl hl (by decide) rfl (fun ls hl => ?_)
    obtain ⟨n6, h⟩ := h
    exact wX8_first_L26 X e_t_6 e_c_0 e_c_3 e_t_8 e_t_9 p_t_4 n6 _ _ _ _ _ _ _ _  I (lv_sub hl [1, 2, 0] rfl) h
  · have h := h.2 c3
    refine lv_iconst (v := (-1)) hx hb (kn_dec tX8_first 4 rfl) (by decide) ?_
    exact kw_iret hx hb hr hlocks I (v_w, v_z, v_pr) rfl h (kn_dec tX8_first 5 rfl)

/-! X8_hiding -/
abbrev rmX8_hiding : Room := { frames := 7, cells := 0, slots := 0, locals := 191 }
def PX8_hiding_b129 (v_t : OV) (v_c : OV) (v_h : OV) (v_s : OV) (gn_pr : Nat) (K34 : Int32 → Int32 → Int32 → Int32 → Int32 → Int32 → OV → OV → (Nat → OV) → Prop) (post : Int32 → OV → OV → (Nat → OV) → Prop) (y1 : Int32) (y2 : Int32) (y6 : Int32) (y7 : Int32) (y8 : Int32) (v_w : OV) (v_z : OV) (v_pr : (Nat → OV)) : Prop := (∀ x1 : Int32, x1 = y6 + (1 : Int32) → K34 y1 y2 y6 y7 y8 x1 v_w v_z v_pr)
set_option maxRecDepth 100000 in
set_option maxHeartbeats 1000000 in
theorem wX8_hiding_b129 {v_t : OV} {v_c : OV} {v_h : OV} {v_s : OV} {gn_pr : Nat} {K34 : Int32 → Int32 → Int32 → Int32 → Int32 → Int32 → OV → OV → (Nat → OV) → Prop} {post : Int32 → OV → OV → (Nat → OV) → Prop} {ad_t : Nat → Nat} {ad_c : Nat → Nat} {ad_h : Nat → Nat} {ad_s : Nat → Nat} {ad_w : Nat → Nat} {ad_z : Nat → Nat} {ad_pr : Nat → Nat → Nat} (X : kn_X p s m args meth c cX8_hiding 9 (some .int) RX8 kn_all D tc Z (kn_A w0 s.heap.size)) (e_t_6 : ad_t (6 + 1) = ad_c 0) (e_c_0 : ad_c (0 + 1) = ad_h 0) (e_c_3 : ad_c (3 + 1) = ad_s 0) (e_t_8 : ad_t (8 + 1) = ad_w 0) (e_t_9 : ad_t (9 + 1) = ad_z 0) (p_t_4 : ∀ i, i < gn_pr → kn_q ad_t 4 i = some (ad_pr i 0))  (hK34 : ∀ (H : Heap) (locs : List Loc) (ls : Array Slot) (y1 : Int32) (y2 : Int32) (y3 : Int32) (y4 : Int32) (y5 : Int32) (y6 : Int32) (v_w : OV) (v_z : OV) (v_pr : (Nat → OV)), (hz_y5 : y5 = 0 ∨ y5 = 1) → kn_I D tc (kn_A w0 s.heap.size) s.heap (List.flatten [[(kTin, ad_t, v_t)], [(kScene, ad_c, v_c)], [(kHill, ad_h, v_h)], [(kState, ad_s, v_s)], [(kWalk, ad_w, v_w)], [(kState, ad_z, v_z)], kn_pool kRule gn_pr ad_pr v_pr]) H locs → lv_has ls 9 [(0, .ref (ad_t 0)), (1, .int y1), (2, .int y2), (3, .int y3), (4, .int y4), (5, .int y5), (6, .int y6)] → K34 y1 y2 y3 y4 y5 y6 v_w v_z v_pr → W p l e rmX8_hiding s m args below meth c H locs 0 0 (kn_Qi D tc w0 (fun (u : OV × OV × (Nat → OV)) => (List.flatten [[(kTin, ad_t, v_t)], [(kScene, ad_c, v_c)], [(kHill, ad_h, v_h)], [(kState, ad_s, v_s)], [(kWalk, ad_w, u.1)], [(kState, ad_z, u.2.1)], kn_pool kRule gn_pr ad_pr u.2.2])) (fun (r : Int32) (u : OV × OV × (Nat → OV)) => post r u.1 u.2.1 u.2.2) below args s 0 0) (F0 m 34 ls [])) : ∀ (H : Heap) (locs : List Loc) (ls : Array Slot) (y1 : Int32) (y2 : Int32) (y6 : Int32) (y7 : Int32) (y8 : Int32) (v_w : OV) (v_z : OV) (v_pr : (Nat → OV)), (hz_y8 : y8 = 0 ∨ y8 = 1) → kn_I D tc (kn_A w0 s.heap.size) s.heap (List.flatten [[(kTin, ad_t, v_t)], [(kScene, ad_c, v_c)], [(kHill, ad_h, v_h)], [(kState, ad_s, v_s)], [(kWalk, ad_w, v_w)], [(kState, ad_z, v_z)], kn_pool kRule gn_pr ad_pr v_pr]) H locs → lv_has ls 9 [(0, .ref (ad_t 0)), (1, .int y1), (2, .int y2), (6, .int y6), (7, .int y7), (8, .int y8)] → PX8_hiding_b129 v_t v_c v_h v_s gn_pr K34 post y1 y2 y6 y7 y8 v_w v_z v_pr → W p l e rmX8_hiding s m args below meth c H locs 0 0 (kn_Qi D tc w0 (fun (u : OV × OV × (Nat → OV)) => (List.flatten [[(kTin, ad_t, v_t)], [(kScene, ad_c, v_c)], [(kHill, ad_h, v_h)], [(kState, ad_s, v_s)], [(kWalk, ad_w, u.1)], [(kState, ad_z, u.2.1)], kn_pool kRule gn_pr ad_pr u.2.2])) (fun (r : Int32) (u : OV × OV × (Nat → OV)) => post r u.1 u.2.1 u.2.2) below args s 0 0) (F0 m 129 ls []) := by
  obtain ⟨S0, hr, hlocks, hK, hZ, hA⟩ := id X
  obtain ⟨hx, hb, hml, hown, hts⟩ := id S0
  intro H locs ls y1 y2 y6 y7 y8 v_w v_z v_pr hz_y8 I hl h
  unfold PX8_hiding_b129 at h
  refine lv_iload hx hb (kn_dec tX8_hiding 63 rfl) (lv_at hl 3 rfl) ?_
  refine lv_istore_n (lv' := [(3, .int _), (0, .ref (ad_t 0)), (1, .int _), (2, .int _), (6, .int _), (7, .int _), (8, .int _)]) hx hb (kn_dec tX8_hiding 64 rfl) rfl hl (by decide) rfl (fun ls hl => ?_)
  refine lv_iload hx hb (kn_dec tX8_hiding 65 rfl) (lv_at hl 5 rfl) ?_
  refine lv_istore (lv' := [(4, .int _), (3, .int _), (0, .ref (ad_t 0)), (1, .int _), (2, .int _), (6, .int _), (7, .int _), (8, .int _)]) hx hb (kn_dec tX8_hiding 66 rfl) hl (by decide) rfl (fun ls hl => ?_)
  refine lv_iload hx hb (kn_dec tX8_hiding 67 rfl) (lv_at hl 7 rfl) ?_
  refine lv_istore (lv' := [(5, .int _), (4, .int _), (3, .int _), (0, .ref (ad_t 0)), (1, .int _), (2, .int _), (6, .int _), (7, .int _), (8, .int _)]) hx hb (kn_dec tX8_hiding 68 rfl) hl (by decide) rfl (fun ls hl => ?_)
  refine kw_iinc (lvf := fun y => [(6, .int y), (5, .int _), (4, .int _), (3, .int _), (0, .ref (ad_t 0)), (1, .int _), (2, .int _), (7, .int _), (8, .int _)]) (nv := (1)) hx hb (kn_dec tX8_hiding 69 rfl) hl (k := 6) rfl (by decide) (by decide) (fun _ => rfl) (fun x1 ex1 ls hl => ?_)
  have h := h x1 ex1
  refine lv_goto (tgt := 34) hx hb (kn_dec tX8_hiding 70 rfl) (by decide) ?_
  exact hK34 _ _ _ _ _ _ _ _ _ _ _ _ hz_y8 I (lv_sub hl [4, 5, 6, 3, 2, 1, 0] rfl) h
def PX8_hiding_b103 (v_t : OV) (v_c : OV) (v_h : OV) (v_s : OV) (gn_pr : Nat) (K34 : Int32 → Int32 → Int32 → Int32 → Int32 → Int32 → OV → OV → (Nat → OV) → Prop) (post : Int32 → OV → OV → (Nat → OV) → Prop) (t0 : Int32) (y1 : Int32) (y2 : Int32) (y3 : Int32) (y4 : Int32) (y5 : Int32) (y6 : Int32) (y7 : Int32) (v_w : OV) (v_z : OV) (v_pr : (Nat → OV)) : Prop := ((y4 < y7 → PX8_hiding_b129 v_t v_c v_h v_s gn_pr K34 post y1 y2 y6 y7 t0 v_w v_z v_pr) ∧ (¬ y4 < y7 → ((¬ y7 = y4 → (∀ x3 : Int32, x3 = y6 + (1 : Int32) → K34 y1 y2 y3 y4 y5 x3 v_w v_z v_pr)) ∧ (y7 = y4 → ((t0 = ((0 : Int32)) → (∀ x5 : Int32, x5 = y6 + (1 : Int32) → K34 y1 y2 y3 y4 y5 x5 v_w v_z v_pr)) ∧ (¬ t0 = ((0 : Int32)) → ((¬ y5 = ((0 : Int32)) → (∀ x7 : Int32, x7 = y6 + (1 : Int32) → K34 y1 y2 y3 y4 y5 x7 v_w v_z v_pr)) ∧ (y5 = ((0 : Int32)) → PX8_hiding_b129 v_t v_c v_h v_s gn_pr K34 post y1 y2 y6 y7 t0 v_w v_z v_pr))))))))
set_option maxRecDepth 100000 in
set_option maxHeartbeats 1000000 in
theorem wX8_hiding_b103 {v_t : OV} {v_c : OV} {v_h : OV} {v_s : OV} {gn_pr : Nat} {K34 : Int32 → Int32 → Int32 → Int32 → Int32 → Int32 → OV → OV → (Nat → OV) → Prop} {post : Int32 → OV → OV → (Nat → OV) → Prop} {ad_t : Nat → Nat} {ad_c : Nat → Nat} {ad_h : Nat → Nat} {ad_s : Nat → Nat} {ad_w : Nat → Nat} {ad_z : Nat → Nat} {ad_pr : Nat → Nat → Nat} (X : kn_X p s m args meth c cX8_hiding 9 (some .int) RX8 kn_all D tc Z (kn_A w0 s.heap.size)) (e_t_6 : ad_t (6 + 1) = ad_c 0) (e_c_0 : ad_c (0 + 1) = ad_h 0) (e_c_3 : ad_c (3 + 1) = ad_s 0) (e_t_8 : ad_t (8 + 1) = ad_w 0) (e_t_9 : ad_t (9 + 1) = ad_z 0) (p_t_4 : ∀ i, i < gn_pr → kn_q ad_t 4 i = some (ad_pr i 0))  (hK34 : ∀ (H : Heap) (locs : List Loc) (ls : Array Slot) (y1 : Int32) (y2 : Int32) (y3 : Int32) (y4 : Int32) (y5 : Int32) (y6 : Int32) (v_w : OV) (v_z : OV) (v_pr : (Nat → OV)), (hz_y5 : y5 = 0 ∨ y5 = 1) → kn_I D tc (kn_A w0 s.heap.size) s.heap (List.flatten [[(kTin, ad_t, v_t)], [(kScene, ad_c, v_c)], [(kHill, ad_h, v_h)], [(kState, ad_s, v_s)], [(kWalk, ad_w, v_w)], [(kState, ad_z, v_z)], kn_pool kRule gn_pr ad_pr v_pr]) H locs → lv_has ls 9 [(0, .ref (ad_t 0)), (1, .int y1), (2, .int y2), (3, .int y3), (4, .int y4), (5, .int y5), (6, .int y6)] → K34 y1 y2 y3 y4 y5 y6 v_w v_z v_pr → W p l e rmX8_hiding s m args below meth c H locs 0 0 (kn_Qi D tc w0 (fun (u : OV × OV × (Nat → OV)) => (List.flatten [[(kTin, ad_t, v_t)], [(kScene, ad_c, v_c)], [(kHill, ad_h, v_h)], [(kState, ad_s, v_s)], [(kWalk, ad_w, u.1)], [(kState, ad_z, u.2.1)], kn_pool kRule gn_pr ad_pr u.2.2])) (fun (r : Int32) (u : OV × OV × (Nat → OV)) => post r u.1 u.2.1 u.2.2) below args s 0 0) (F0 m 34 ls [])) : ∀ (H : Heap) (locs : List Loc) (ls : Array Slot) (t0 : Int32) (y1 : Int32) (y2 : Int32) (y3 : Int32) (y4 : Int32) (y5 : Int32) (y6 : Int32) (y7 : Int32) (v_w : OV) (v_z : OV) (v_pr : (Nat → OV)), (hz_t0 : t0 = 0 ∨ t0 = 1) → (hz_y5 : y5 = 0 ∨ y5 = 1) → kn_I D tc (kn_A w0 s.heap.size) s.heap (List.flatten [[(kTin, ad_t, v_t)], [(kScene, ad_c, v_c)], [(kHill, ad_h, v_h)], [(kState, ad_s, v_s)], [(kWalk, ad_w, v_w)], [(kState, ad_z, v_z)], kn_pool kRule gn_pr ad_pr v_pr]) H locs → lv_has ls 9 [(0, .ref (ad_t 0)), (1, .int y1), (2, .int y2), (3, .int y3), (4, .int y4), (5, .int y5), (6, .int y6), (7, .int y7)] → PX8_hiding_b103 v_t v_c v_h v_s gn_pr K34 post t0 y1 y2 y3 y4 y5 y6 y7 v_w v_z v_pr → W p l e rmX8_hiding s m args below meth c H locs 0 0 (kn_Qi D tc w0 (fun (u : OV × OV × (Nat → OV)) => (List.flatten [[(kTin, ad_t, v_t)], [(kScene, ad_c, v_c)], [(kHill, ad_h, v_h)], [(kState, ad_s, v_s)], [(kWalk, ad_w, u.1)], [(kState, ad_z, u.2.1)], kn_pool kRule gn_pr ad_pr u.2.2])) (fun (r : Int32) (u : OV × OV × (Nat → OV)) => post r u.1 u.2.1 u.2.2) below args s 0 0) (F0 m 103 ls [.int t0]) := by
  obtain ⟨S0, hr, hlocks, hK, hZ, hA⟩ := id X
  obtain ⟨hx, hb, hml, hown, hts⟩ := id S0
  intro H locs ls t0 y1 y2 y3 y4 y5 y6 y7 v_w v_z v_pr hz_t0 hz_y5 I hl h
  unfold PX8_hiding_b103 at h
  refine lv_istore (lv' := [(8, .int _), (0, .ref (ad_t 0)), (1, .int _), (2, .int _), (3, .int _), (4, .int _), (5, .int _), (6, .int _), (7, .int _)]) hx hb (kn_dec tX8_hiding 52 rfl) hl (by decide) rfl (fun ls hl => ?_)
  refine lv_iload hx hb (kn_dec tX8_hiding 53 rfl) (lv_at hl 8 rfl) ?_
  refine lv_iload hx hb (kn_dec tX8_hiding 54 rfl) (lv_at hl 5 rfl) ?_
  refine lv_icmp_gt (tgt := 129) hx hb (kn_dec tX8_hiding 55 rfl) (by decide) (fun c1 => ?_) (fun c1 => ?_)
  · have h := h.1 c1
    exact wX8_hiding_b129 X e_t_6 e_c_0 e_c_3 e_t_8 e_t_9 p_t_4 hK34 _ _ _ _ _ _ _ _ _ _ _ hz_t0 I (lv_sub hl [1, 2, 3, 7, 8, 0] rfl) h
  · have h := h.2 c1
    refine lv_iload hx hb (kn_dec tX8_hiding 56 rfl) (lv_at hl 8 rfl) ?_
    refine lv_iload hx hb (kn_dec tX8_hiding 57 rfl) (lv_at hl 5 rfl) ?_
    refine lv_icmp_ne (tgt := 140) hx hb (kn_dec tX8_hiding 58 rfl) (by decide) (fun c2 => ?_) (fun c2 => ?_)
    · have h := h.1 c2
      refine kw_iinc (lvf := fun y => [(6, .int y), (8, .int _), (0, .ref (ad_t 0)), (1, .int _), (2, .int _), (3, .int _), (4, .int _), (5, .int _), (7, .int _)]) (nv := (1)) hx hb (kn_dec tX8_hiding 69 rfl) hl (k := 7) rfl (by decide) (by decide) (fun _ => rfl) (fun x3 ex3 ls hl => ?_)
      have h := h x3 ex3
      refine lv_goto (tgt := 34) hx hb (kn_dec tX8_hiding 70 rfl) (by decide) ?_
      exact hK34 _ _ _ _ _ _ _ _ _ _ _ _ hz_y5 I (lv_sub hl [2, 3, 4, 5, 6, 7, 0] rfl) h
    · have h := h.2 c2
      refine lv_iload hx hb (kn_dec tX8_hiding 59 rfl) (lv_at hl 0 rfl) ?_
      refine lv_if_eq (tgt := 140) hx hb (kn_dec tX8_hiding 60 rfl) (by decide) (fun c4 => ?_) (fun c4 => ?_)
      · have h := h.1 c4
        refine kw_iinc (lvf := fun y => [(6, .int y), (8, .int _), (0, .ref (ad_t 0)), (1, .int _), (2, .int _), (3, .int _), (4, .int _), (5, .int _), (7, .int _)]) (nv := (1)) hx hb (kn_dec tX8_hiding 69 rfl) hl (k := 7) rfl (by decide) (by decide) (fun _ => rfl) (fun x5 ex5 ls hl => ?_)
        have h := h x5 ex5
        refine lv_goto (tgt := 34) hx hb (kn_dec tX8_hiding 70 rfl) (by decide) ?_
        exact hK34 _ _ _ _ _ _ _ _ _ _ _ _ hz_y5 I (lv_sub hl [2, 3, 4, 5, 6, 7, 0] rfl) h
      · have h := h.2 c4
        refine lv_iload hx hb (kn_dec tX8_hiding 61 rfl) (lv_at hl 6 rfl) ?_
        refine lv_if_ne (tgt := 140) hx hb (kn_dec tX8_hiding 62 rfl) (by decide) (fun c6 => ?_) (fun c6 => ?_)
        · have h := h.1 c6
          refine kw_iinc (lvf := fun y => [(6, .int y), (8, .int _), (0, .ref (ad_t 0)), (1, .int _), (2, .int _), (3, .int _), (4, .int _), (5, .int _), (7, .int _)]) (nv := (1)) hx hb (kn_dec tX8_hiding 69 rfl) hl (k := 7) rfl (by decide) (by decide) (fun _ => rfl) (fun x7 ex7 ls hl => ?_)
          have h := h x7 ex7
          refine lv_goto (tgt := 34) hx hb (kn_dec tX8_hiding 70 rfl) (by decide) ?_
          exact hK34 _ _ _ _ _ _ _ _ _ _ _ _ hz_y5 I (lv_sub hl [2, 3, 4, 5, 6, 7, 0] rfl) h
        · have h := h.2 c6
          exact wX8_hiding_b129 X e_t_6 e_c_0 e_c_3 e_t_8 e_t_9 p_t_4 hK34 _ _ _ _ _ _ _ _ _ _ _ hz_t0 I (lv_sub hl [1, 2, 3, 7, 8, 0] rfl) h
def PX8_hiding_L34 (v_t : OV) (v_c : OV) (v_h : OV) (v_s : OV) (gn_pr : Nat)  (post : Int32 → OV → OV → (Nat → OV) → Prop) : Nat → Int32 → Int32 → Int32 → Int32 → Int32 → Int32 → OV → OV → (Nat → OV) → Prop
  | 0, _, _, _, _, _, _, _, _, _ => False
  | n + 1, y1, y2, y3, y4, y5, y6, v_w, v_z, v_pr => (((v_h.1 4) ≤ y6 → ((¬ y2 = ((0 : Int32)) → post y4 v_w v_z v_pr) ∧ (y2 = ((0 : Int32)) → post y3 v_w v_z v_pr))) ∧ (¬ (v_h.1 4) ≤ y6 → (PX6_copy v_z v_s (fun v_z3 => (∀ v_z5 : OV, v_z5 = si v_z3 2 y6 → (PX8_goOn v_t v_c v_h v_w v_z5 v_pr gn_pr y1 (fun r9 v_w6 v_z7 v_pr8 => (PX6_finders v_z7 (fun r11 => (((v_z7.1 2) = ((-1 : Int32)) → PX8_hiding_b103 v_t v_c v_h v_s gn_pr (PX8_hiding_L34 v_t v_c v_h v_s gn_pr post n) post ((0 : Int32)) y1 y2 y3 y4 y5 y6 r11 v_w6 v_z7 v_pr8) ∧ (¬ (v_z7.1 2) = ((-1 : Int32)) → PX8_hiding_b103 v_t v_c v_h v_s gn_pr (PX8_hiding_L34 v_t v_c v_h v_s gn_pr post n) post ((1 : Int32)) y1 y2 y3 y4 y5 y6 r11 v_w6 v_z7 v_pr8)))))))))))
set_option maxRecDepth 100000 in
set_option maxHeartbeats 1000000 in
theorem wX8_hiding_L34 {v_t : OV} {v_c : OV} {v_h : OV} {v_s : OV} {gn_pr : Nat}  {post : Int32 → OV → OV → (Nat → OV) → Prop} {ad_t : Nat → Nat} {ad_c : Nat → Nat} {ad_h : Nat → Nat} {ad_s : Nat → Nat} {ad_w : Nat → Nat} {ad_z : Nat → Nat} {ad_pr : Nat → Nat → Nat} (X : kn_X p s m args meth c cX8_hiding 9 (some .int) RX8 kn_all D tc Z (kn_A w0 s.heap.size)) (e_t_6 : ad_t (6 + 1) = ad_c 0) (e_c_0 : ad_c (0 + 1) = ad_h 0) (e_c_3 : ad_c (3 + 1) = ad_s 0) (e_t_8 : ad_t (8 + 1) = ad_w 0) (e_t_9 : ad_t (9 + 1) = ad_z 0) (p_t_4 : ∀ i, i < gn_pr → kn_q ad_t 4 i = some (ad_pr i 0))   : ∀ n : Nat, ∀ (H : Heap) (locs : List Loc) (ls : Array Slot) (y1 : Int32) (y2 : Int32) (y3 : Int32) (y4 : Int32) (y5 : Int32) (y6 : Int32) (v_w : OV) (v_z : OV) (v_pr : (Nat → OV)), (hz_y5 : y5 = 0 ∨ y5 = 1) → kn_I D tc (kn_A w0 s.heap.size) s.heap (List.flatten [[(kTin, ad_t, v_t)], [(kScene, ad_c, v_c)], [(kHill, ad_h, v_h)], [(kState, ad_s, v_s)], [(kWalk, ad_w, v_w)], [(kState, ad_z, v_z)], kn_pool kRule gn_pr ad_pr v_pr]) H locs → lv_has ls 9 [(0, .ref (ad_t 0)), (1, .int y1), (2, .int y2), (3, .int y3), (4, .int y4), (5, .int y5), (6, .int y6)] → PX8_hiding_L34 v_t v_c v_h v_s gn_pr post n y1 y2 y3 y4 y5 y6 v_w v_z v_pr → W p l e rmX8_hiding s m args below meth c H locs 0 0 (kn_Qi D tc w0 (fun (u : OV × OV × (Nat → OV)) => (List.flatten [[(kTin, ad_t, v_t)], [(kScene, ad_c, v_c)], [(kHill, ad_h, v_h)], [(kState, ad_s, v_s)], [(kWalk, ad_w, u.1)], [(kState, ad_z, u.2.1)], kn_pool kRule gn_pr ad_pr u.2.2])) (fun (r : Int32) (u : OV × OV × (Nat → OV)) => post r u.1 u.2.1 u.2.2) below args s 0 0) (F0 m 34 ls []) := by
  obtain ⟨S0, hr, hlocks, hK, hZ, hA⟩ := id X
  obtain ⟨hx, hb, hml, hown, hts⟩ := id S0
  intro n
  induction n with
  | zero =>
    intro H locs ls y1 y2 y3 y4 y5 y6 v_w v_z v_pr hz_y5 I hl h
    unfold PX8_hiding_L34 at h
    exact h.elim
  | succ n ih =>
    intro H locs ls y1 y2 y3 y4 y5 y6 v_w v_z v_pr hz_y5 I hl h
    unfold PX8_hiding_L34 at h
    refine lv_iload hx hb (kn_dec tX8_hiding 20 rfl) (lv_at hl 6 rfl) ?_
    refine lv_aload_n hx hb (kn_dec tX8_hiding 21 rfl) rfl (lv_at hl 0 rfl) ?_
    refine kw_getl hx hb hts inX8 hown hK I 0 rfl rfl 6 (by decide) rfl (hts _ q2_105) (kn_dec tX8_hiding 22 rfl) e_t_6 ?_
    refine kw_getl hx hb hts inX5 hown hK I 1 rfl rfl 0 (by decide) rfl (hts _ q2_28) (kn_dec tX8_hiding 23 rfl) e_c_0 ?_
    refine kw_geti hx hb hts inX0 hown hK I 2 rfl rfl 4 (by decide) rfl (hts _ q1_131) (kn_dec tX8_hiding 24 rfl) ?_
    refine lv_icmp_ge (tgt := 146) hx hb (kn_dec tX8_hiding 25 rfl) (by decide) (fun c1 => ?_) (fun c1 => ?_)
    · have h := h.1 c1
      refine lv_iload_n hx hb (kn_dec tX8_hiding 71 rfl) rfl (lv_at hl 2 rfl) ?_
      refine lv_if_ne (tgt := 154) hx hb (kn_dec tX8_hiding 72 rfl) (by decide) (fun c2 => ?_) (fun c2 => ?_)
      · have h := h.1 c2
        refine lv_iload hx hb (kn_dec tX8_hiding 75 rfl) (lv_at hl 4 rfl) ?_
        exact kw_iret hx hb hr hlocks I (v_w, v_z, v_pr) rfl h (kn_dec tX8_hiding 76 rfl)
      · have h := h.2 c2
        refine lv_iload_n hx hb (kn_dec tX8_hiding 73 rfl) rfl (lv_at hl 3 rfl) ?_
        refine lv_goto (tgt := 156) hx hb (kn_dec tX8_hiding 74 rfl) (by decide) ?_
        exact kw_iret hx hb hr hlocks I (v_w, v_z, v_pr) rfl h (kn_dec tX8_hiding 76 rfl)
    · have h := h.2 c1
      refine lv_aload_n hx hb (kn_dec tX8_hiding 26 rfl) rfl (lv_at hl 0 rfl) ?_
      refine kw_getl hx hb hts inX8 hown hK I 0 rfl rfl 9 (by decide) rfl (hts _ q2_108) (kn_dec tX8_hiding 27 rfl) e_t_9 ?_
      refine lv_aload_n hx hb (kn_dec tX8_hiding 28 rfl) rfl (lv_at hl 0 rfl) ?_
      refine kw_getl hx hb hts inX8 hown hK I 0 rfl rfl 6 (by decide) rfl (hts _ q2_105) (kn_dec tX8_hiding 29 rfl) e_t_6 ?_
      refine kw_getl hx hb hts inX5 hown hK I 1 rfl rfl 3 (by decide) rfl (hts _ q2_34) (kn_dec tX8_hiding 30 rfl) e_c_3 ?_
      have I : kn_I D tc (kn_A w0 s.heap.size) s.heap ([(kState, ad_z, _), (kState, ad_s, _)] ++ (List.flatten [[(kTin, ad_t, _)], [(kScene, ad_c, _)], [(kHill, ad_h, _)], [(kWalk, ad_w, _)], kn_pool kRule gn_pr ad_pr _])) _ _ := I.perm (kn_segA (segs := [[(kTin, ad_t, _)], [(kScene, ad_c, _)], [(kHill, ad_h, _)], [(kState, ad_s, _)], [(kWalk, ad_w, _)], [(kState, ad_z, _)], kn_pool kRule gn_pr ad_pr _]) (sC := [[(kState, ad_z, _)], [(kState, ad_s, _)]]) (sR := [[(kTin, ad_t, _)], [(kScene, ad_c, _)], [(kHill, ad_h, _)], [(kWalk, ad_w, _)], kn_pool kRule gn_pr ad_pr _]) [5, 3, 0, 1, 2, 4, 6] rfl rfl)
      refine kw_callv (wc := [(kState, ad_z, _), (kState, ad_s, _)]) (wr := (List.flatten [[(kTin, ad_t, _)], [(kScene, ad_c, _)], [(kHill, ad_h, _)], [(kWalk, ad_w, _)], kn_pool kRule gn_pr ad_pr _])) I hA (kn_pl1 _ _) (kn_pl2 _ _) (kn_pl1_ok _ _) (kn_pl2_ok _ _) (kn_pl2_nd _ _) (kn_pl_dis _ _) (kn_runV (As := [.ref (ad_s 0)]) S0 hK hZ hA I ((ctX6_copy h).met _) (kn_cwV 1 hts q4_44 q3_171 q3_172 q1_8 q3_173 rfl rfl (by decide +kernel) ⟨(Nat.le_of_ble_eq_true rfl), (Nat.le_of_ble_eq_true rfl)⟩) (kn_pl1 _ _) (kn_pl1_ok _ _) (kn_pl1_nd _ _) 0 rfl rfl rfl rfl hl.1 rfl (Nat.le_of_ble_eq_true rfl) (kn_dec tX8_hiding 31 rfl) ⟨(Nat.le_of_ble_eq_true rfl), (Nat.le_of_ble_eq_true rfl)⟩) (fun u4 H locs h I => ?_)
      have I : kn_I D tc (kn_A w0 s.heap.size) s.heap (List.flatten [[(kTin, ad_t, _)], [(kScene, ad_c, _)], [(kHill, ad_h, _)], [(kState, ad_s, _)], [(kWalk, ad_w, _)], [(kState, ad_z, _)], kn_pool kRule gn_pr ad_pr _]) _ _ := I.perm (kn_segB (sC := [[(kTin, ad_t, _)], [(kScene, ad_c, _)], [(kHill, ad_h, _)], [(kWalk, ad_w, _)], kn_pool kRule gn_pr ad_pr _]) (sR := [[(kState, ad_z, _)], [(kState, ad_s, _)]]) (segs := [[(kTin, ad_t, _)], [(kScene, ad_c, _)], [(kHill, ad_h, _)], [(kState, ad_s, _)], [(kWalk, ad_w, _)], [(kState, ad_z, _)], kn_pool kRule gn_pr ad_pr _]) [0, 1, 2, 6, 3, 5, 4] rfl rfl)
      refine lv_aload_n hx hb (kn_dec tX8_hiding 32 rfl) rfl (lv_at hl 0 rfl) ?_
      refine kw_getl hx hb hts inX8 hown hK I 0 rfl rfl 9 (by decide) rfl (hts _ q2_108) (kn_dec tX8_hiding 33 rfl) e_t_9 ?_
      refine lv_iload hx hb (kn_dec tX8_hiding 34 rfl) (lv_at hl 6 rfl) ?_
      refine kw_puti hx hb hts inX6 tyX6 tyX6_ok nmX6 hown hK I 5 rfl rfl 2 (by decide) rfl (hts _ q1_227) rfl rfl rfl (kn_dec tX8_hiding 35 rfl) (fun v_z5 ev_z5 H locs I => ?_)
      have h := h v_z5 ev_z5
      have I : kn_I D tc (kn_A w0 s.heap.size) s.heap (List.flatten [[(kTin, ad_t, _)], [(kScene, ad_c, _)], [(kHill, ad_h, _)], [(kState, ad_s, _)], [(kWalk, ad_w, _)], [(kState, ad_z, _)], kn_pool kRule gn_pr ad_pr _]) _ _ := I
      refine lv_aload_n hx hb (kn_dec tX8_hiding 36 rfl) rfl (lv_at hl 0 rfl) ?_
      refine lv_iload_n hx hb (kn_dec tX8_hiding 37 rfl) rfl (lv_at hl 1 rfl) ?_
      have I : kn_I D tc (kn_A w0 s.heap.size) s.heap ((List.flatten [[(kTin, ad_t, _)], [(kScene, ad_c, _)], [(kHill, ad_h, _)], [(kWalk, ad_w, _)], [(kState, ad_z, _)], kn_pool kRule gn_pr ad_pr _]) ++ (List.flatten [[(kState, ad_s, _)]])) _ _ := I.perm (kn_segA (segs := [[(kTin, ad_t, _)], [(kScene, ad_c, _)], [(kHill, ad_h, _)], [(kState, ad_s, _)], [(kWalk, ad_w, _)], [(kState, ad_z, _)], kn_pool kRule gn_pr ad_pr _]) (sC := [[(kTin, ad_t, _)], [(kScene, ad_c, _)], [(kHill, ad_h, _)], [(kWalk, ad_w, _)], [(kState, ad_z, _)], kn_pool kRule gn_pr ad_pr _]) (sR := [[(kState, ad_s, _)]]) [0, 1, 2, 4, 5, 6, 3] rfl rfl)
      refine kw_calli (wc := (List.flatten [[(kTin, ad_t, _)], [(kScene, ad_c, _)], [(kHill, ad_h, _)], [(kWalk, ad_w, _)], [(kState, ad_z, _)], kn_pool kRule gn_pr ad_pr _])) (wr := (List.flatten [[(kState, ad_s, _)]])) I hA (kn_pl1 _ _) (kn_pl2 _ _) (kn_pl1_ok _ _) (kn_pl2_ok _ _) (kn_pl2_nd _ _) (kn_pl_dis _ _) (kn_runV (As := [.int _]) S0 hK hZ hA I ((ctX8_goOn e_t_6 e_c_0 e_t_8 e_t_9 p_t_4 h).met _) (kn_cwV 1 hts q4_45 q4_47 q0_21 q1_1 q4_48 rfl rfl (by decide +kernel) ⟨(Nat.le_of_ble_eq_true rfl), (Nat.le_of_ble_eq_true rfl)⟩) (kn_pl1 _ _) (kn_pl1_ok _ _) (kn_pl1_nd _ _) 0 rfl rfl rfl rfl hl.1 rfl (Nat.le_of_ble_eq_true rfl) (kn_dec tX8_hiding 38 rfl) ⟨(Nat.le_of_ble_eq_true rfl), (Nat.le_of_ble_eq_true rfl)⟩) (fun r9 u10 H locs h I => ?_)
      have I : kn_I D tc (kn_A w0 s.heap.size) s.heap (List.flatten [[(kTin, ad_t, _)], [(kScene, ad_c, _)], [(kHill, ad_h, _)], [(kState, ad_s, _)], [(kWalk, ad_w, _)], [(kState, ad_z, _)], kn_pool kRule gn_pr ad_pr _]) _ _ := I.perm (kn_segB (sC := [[(kState, ad_s, _)]]) (sR := [[(kTin, ad_t, _)], [(kScene, ad_c, _)], [(kHill, ad_h, _)], [(kWalk, ad_w, _)], [(kState, ad_z, _)], kn_pool kRule gn_pr ad_pr _]) (segs := [[(kTin, ad_t, _)], [(kScene, ad_c, _)], [(kHill, ad_h, _)], [(kState, ad_s, _)], [(kWalk, ad_w, _)], [(kState, ad_z, _)], kn_pool kRule gn_pr ad_pr _]) [1, 2, 3, 0, 4, 5, 6] rfl rfl)
      refine lv_pop hx hb (kn_dec tX8_hiding 39 rfl) rfl ?_
      refine lv_aload_n hx hb (kn_dec tX8_hiding 40 rfl) rfl (lv_at hl 0 rfl) ?_
      refine kw_getl hx hb hts inX8 hown hK I 0 rfl rfl 9 (by decide) rfl (hts _ q2_108) (kn_dec tX8_hiding 41 rfl) e_t_9 ?_
      have I : kn_I D tc (kn_A w0 s.heap.size) s.heap ([(kState, ad_z, _)] ++ (List.flatten [[(kTin, ad_t, _)], [(kScene, ad_c, _)], [(kHill, ad_h, _)], [(kState, ad_s, _)], [(kWalk, ad_w, _)], kn_pool kRule gn_pr ad_pr _])) _ _ := I.perm (kn_segA (segs := [[(kTin, ad_t, _)], [(kScene, ad_c, _)], [(kHill, ad_h, _)], [(kState, ad_s, _)], [(kWalk, ad_w, _)], [(kState, ad_z, _)], kn_pool kRule gn_pr ad_pr _]) (sC := [[(kState, ad_z, _)]]) (sR := [[(kTin, ad_t, _)], [(kScene, ad_c, _)], [(kHill, ad_h, _)], [(kState, ad_s, _)], [(kWalk, ad_w, _)], kn_pool kRule gn_pr ad_pr _]) [5, 0, 1, 2, 3, 4, 6] rfl rfl)
      refine kw_calli (wc := [(kState, ad_z, _)]) (wr := (List.flatten [[(kTin, ad_t, _)], [(kScene, ad_c, _)], [(kHill, ad_h, _)], [(kState, ad_s, _)], [(kWalk, ad_w, _)], kn_pool kRule gn_pr ad_pr _])) I hA (kn_pl1 _ _) (kn_pl2 _ _) (kn_pl1_ok _ _) (kn_pl2_ok _ _) (kn_pl2_nd _ _) (kn_pl_dis _ _) (kn_runV (As := []) S0 hK hZ hA I ((ctX6_finders h).met _) (kn_cwV 0 hts q4_73 q3_196 q3_197 q1_8 q3_198 rfl rfl (by decide +kernel) ⟨(Nat.le_of_ble_eq_true rfl), (Nat.le_of_ble_eq_true rfl)⟩) (kn_pl1 _ _) (kn_pl1_ok _ _) (kn_pl1_nd _ _) 0 rfl rfl rfl rfl hl.1 rfl (Nat.le_of_ble_eq_true rfl) (kn_dec tX8_hiding 42 rfl) ⟨(Nat.le_of_ble_eq_true rfl), (Nat.le_of_ble_eq_true rfl)⟩) (fun r11 u12 H locs h I => ?_)
      have I : kn_I D tc (kn_A w0 s.heap.size) s.heap (List.flatten [[(kTin, ad_t, _)], [(kScene, ad_c, _)], [(kHill, ad_h, _)], [(kState, ad_s, _)], [(kWalk, ad_w, _)], [(kState, ad_z, _)], kn_pool kRule gn_pr ad_pr _]) _ _ := I.perm (kn_segB (sC := [[(kTin, ad_t, _)], [(kScene, ad_c, _)], [(kHill, ad_h, _)], [(kState, ad_s, _)], [(kWalk, ad_w, _)], kn_pool kRule gn_pr ad_pr _]) (sR := [[(kState, ad_z, _)]]) (segs := [[(kTin, ad_t, _)], [(kScene, ad_c, _)], [(kHill, ad_h, _)], [(kState, ad_s, _)], [(kWalk, ad_w, _)], [(kState, ad_z, _)], kn_pool kRule gn_pr ad_pr _]) [0, 1, 2, 3, 4, 6, 5] rfl rfl)
      refine lv_istore (lv' := [(7, .int _), (0, .ref (ad_t 0)), (1, .int _), (2, .int _), (3, .int _), (4, .int _), (5, .int _), (6, .int _)]) hx hb (kn_dec tX8_hiding 43 rfl) hl (by decide) rfl (fun ls hl => ?_)
      refine lv_aload_n hx hb (kn_dec tX8_hiding 44 rfl) rfl (lv_at hl 1 rfl) ?_
      refine kw_getl hx hb hts inX8 hown hK I 0 rfl rfl 9 (by decide) rfl (hts _ q2_108) (kn_dec tX8_hiding 45 rfl) e_t_9 ?_
      refine kw_geti hx hb hts inX6 hown hK I 5 rfl rfl 2 (by decide) rfl (hts _ q1_227) (kn_dec tX8_hiding 46 rfl) ?_
      refine lv_iconst (v := (-1)) hx hb (kn_dec tX8_hiding 47 rfl) (by decide) ?_
      refine lv_icmp_eq (tgt := 102) hx hb (kn_dec tX8_hiding 48 rfl) (by decide) (fun c13 => ?_) (fun c13 => ?_)
      · have h := h.1 c13
        refine lv_iconst (v := (0)) hx hb (kn_dec tX8_hiding 51 rfl) (by decide) ?_
        exact wX8_hiding_b103 X e_t_6 e_c_0 e_c_3 e_t_8 e_t_9 p_t_4 ih _ _ _ _ _ _ _ _ _ _ _ _ _ _ (Or.inl rfl) hz_y5 I (lv_sub hl [1, 2, 3, 4, 5, 6, 7, 0] rfl) h
      · have h := h.2 c13
        refine lv_iconst (v := (1)) hx hb (kn_dec tX8_hiding 49 rfl) (by decide) ?_
        refine lv_goto (tgt := 103) hx hb (kn_dec tX8_hiding 50 rfl) (by decide) ?_
        exact wX8_hiding_b103 X e_t_6 e_c_0 e_c_3 e_t_8 e_t_9 p_t_4 ih _ _ _ _ _ _ _ _ _ _ _ _ _ _ (Or.inr rfl) hz_y5 I (lv_sub hl [1, 2, 3, 4, 5, 6, 7, 0] rfl) h
def PX8_hiding  (v_t : OV) (v_c : OV) (v_h : OV) (v_s : OV) (v_w : OV) (v_z : OV) (v_pr : (Nat → OV)) (gn_pr : Nat) (a1 : Int32) (a2 : Int32) (post : Int32 → OV → OV → (Nat → OV) → Prop) : Prop := (PX8_isTold v_t v_c v_h a2 (fun r1 => ((r1 = ((0 : Int32)) → post ((-1 : Int32)) v_w v_z v_pr) ∧ (¬ r1 = ((0 : Int32)) → ((a1 < ((1 : Int32)) → post ((-1 : Int32)) v_w v_z v_pr) ∧ (¬ a1 < ((1 : Int32)) → ((a1 ≤ ((60 : Int32)) → (∃ n6 : Nat, PX8_hiding_L34 v_t v_c v_h v_s gn_pr post n6 a1 a2 ((-2 : Int32)) ((-2 : Int32)) ((0 : Int32)) ((0 : Int32)) v_w v_z v_pr)) ∧ (¬ a1 ≤ ((60 : Int32)) → post ((-1 : Int32)) v_w v_z v_pr))))))))
set_option maxRecDepth 100000 in
set_option maxHeartbeats 1000000 in
theorem ctX8_hiding {l : Launch} {D : va_G} {tc : Nat → ClassId} {Z : (Nat → Nat) × (Nat → Nat)}  {ad_t : Nat → Nat} {ad_c : Nat → Nat} {ad_h : Nat → Nat} {ad_s : Nat → Nat} {ad_w : Nat → Nat} {ad_z : Nat → Nat} {ad_pr : Nat → Nat → Nat} {v_t : OV} {v_c : OV} {v_h : OV} {v_s : OV} {v_w : OV} {v_z : OV} {v_pr : (Nat → OV)} {gn_pr : Nat} {a1 : Int32} {a2 : Int32} (e_t_6 : ad_t (6 + 1) = ad_c 0) (e_c_0 : ad_c (0 + 1) = ad_h 0) (e_c_3 : ad_c (3 + 1) = ad_s 0) (e_t_8 : ad_t (8 + 1) = ad_w 0) (e_t_9 : ad_t (9 + 1) = ad_z 0) (p_t_4 : ∀ i, i < gn_pr → kn_q ad_t 4 i = some (ad_pr i 0))   {post : Int32 → OV → OV → (Nat → OV) → Prop} (h : PX8_hiding  v_t v_c v_h v_s v_w v_z v_pr gn_pr a1 a2 post) : CTi l D tc Z yX8_hiding (Cond.code yX8_hiding cX8_hiding 9 (some .int) :: kn_all) rmX8_hiding 0 0 [.ref (ad_t 0), .int a1, .int a2] (List.flatten [[(kTin, ad_t, v_t)], [(kScene, ad_c, v_c)], [(kHill, ad_h, v_h)], [(kState, ad_s, v_s)], [(kWalk, ad_w, v_w)], [(kState, ad_z, v_z)], kn_pool kRule gn_pr ad_pr v_pr]) (fun (u : OV × OV × (Nat → OV)) => (List.flatten [[(kTin, ad_t, v_t)], [(kScene, ad_c, v_c)], [(kHill, ad_h, v_h)], [(kState, ad_s, v_s)], [(kWalk, ad_w, u.1)], [(kState, ad_z, u.2.1)], kn_pool kRule gn_pr ad_pr u.2.2])) (fun (r : Int32) (u : OV × OV × (Nat → OV)) => post r u.1 u.2.1 u.2.2) := by
  refine kn_ofi (cc := cX8_hiding) (nL := 9) (ret := (some .int)) (lv := [(0, .ref (ad_t 0)), (1, .int a1), (2, .int a2)]) (by decide) (Nat.le_of_ble_eq_true rfl) rfl (fun p e s m below meth c ls X I hl _ => ?_)
  obtain ⟨S0, hr, hlocks, hK, hZ, hA⟩ := id X
  obtain ⟨hx, hb, hml, hown, hts⟩ := id S0
  unfold PX8_hiding at h
  refine lv_aload_n hx hb (kn_dec tX8_hiding 0 rfl) rfl (lv_at hl 0 rfl) ?_
  refine lv_iload_n hx hb (kn_dec tX8_hiding 1 rfl) rfl (lv_at hl 2 rfl) ?_
  have I : kn_I D tc (kn_A _ s.heap.size) s.heap ([(kTin, ad_t, _), (kScene, ad_c, _), (kHill, ad_h, _)] ++ (List.flatten [[(kState, ad_s, _)], [(kWalk, ad_w, _)], [(kState, ad_z, _)], kn_pool kRule gn_pr ad_pr _])) _ _ := I.perm (kn_segA (segs := [[(kTin, ad_t, _)], [(kScene, ad_c, _)], [(kHill, ad_h, _)], [(kState, ad_s, _)], [(kWalk, ad_w, _)], [(kState, ad_z, _)], kn_pool kRule gn_pr ad_pr _]) (sC := [[(kTin, ad_t, _)], [(kScene, ad_c, _)], [(kHill, ad_h, _)]]) (sR := [[(kState, ad_s, _)], [(kWalk, ad_w, _)], [(kState, ad_z, _)], kn_pool kRule gn_pr ad_pr _]) [0, 1, 2, 3, 4, 5, 6] rfl rfl)
  refine kw_calli (wc := [(kTin, ad_t, _), (kScene, ad_c, _), (kHill, ad_h, _)]) (wr := (List.flatten [[(kState, ad_s, _)], [(kWalk, ad_w, _)], [(kState, ad_z, _)], kn_pool kRule gn_pr ad_pr _])) I hA (kn_pl1 _ _) (kn_pl2 _ _) (kn_pl1_ok _ _) (kn_pl2_ok _ _) (kn_pl2_nd _ _) (kn_pl_dis _ _) (kn_runV (As := [.int _]) S0 hK hZ hA I ((ctX8_isTold e_t_6 e_c_0 h).met _) (kn_cwV 1 hts q4_58 q4_60 q0_22 q1_1 q4_61 rfl rfl (by decide +kernel) ⟨(Nat.le_of_ble_eq_true rfl), (Nat.le_of_ble_eq_true rfl)⟩) (kn_pl1 _ _) (kn_pl1_ok _ _) (kn_pl1_nd _ _) 0 rfl rfl rfl rfl hl.1 rfl (Nat.le_of_ble_eq_true rfl) (kn_dec tX8_hiding 2 rfl) ⟨(Nat.le_of_ble_eq_true rfl), (Nat.le_of_ble_eq_true rfl)⟩) (fun r1 u2 H locs h I => ?_)
  obtain ⟨hz_r1, h⟩ := h
  have I : kn_I D tc (kn_A _ s.heap.size) s.heap (List.flatten [[(kTin, ad_t, _)], [(kScene, ad_c, _)], [(kHill, ad_h, _)], [(kState, ad_s, _)], [(kWalk, ad_w, _)], [(kState, ad_z, _)], kn_pool kRule gn_pr ad_pr _]) _ _ := I.perm (kn_segB (sC := [[(kState, ad_s, _)], [(kWalk, ad_w, _)], [(kState, ad_z, _)], kn_pool kRule gn_pr ad_pr _]) (sR := [[(kTin, ad_t, _)], [(kScene, ad_c, _)], [(kHill, ad_h, _)]]) (segs := [[(kTin, ad_t, _)], [(kScene, ad_c, _)], [(kHill, ad_h, _)], [(kState, ad_s, _)], [(kWalk, ad_w, _)], [(kState, ad_z, _)], kn_pool kRule gn_pr ad_pr _]) [4, 5, 6, 0, 1, 2, 3] rfl rfl)
  refine lv_if_eq (tgt := 19) hx hb (kn_dec tX8_hiding 3 rfl) (by decide) (fun c3 => ?_) (fun c3 => ?_)
  · have h := h.1 c3
    refine lv_iconst (v := (-1)) hx hb (kn_dec tX8_hiding 10 rfl) (by decide) ?_
    exact kw_iret hx hb hr hlocks I (v_w, v_z, v_pr) rfl h (kn_dec tX8_hiding 11 rfl)
  · have h := h.2 c3
    refine lv_iload_n hx hb (kn_dec tX8_hiding 4 rfl) rfl (lv_at hl 1 rfl) ?_
    refine lv_iconst (v := (1)) hx hb (kn_dec tX8_hiding 5 rfl) (by decide) ?_
    refine lv_icmp_lt (tgt := 19) hx hb (kn_dec tX8_hiding 6 rfl) (by decide) (fun c4 => ?_) (fun c4 => ?_)
    · have h := h.1 c4
      refine lv_iconst (v := (-1)) hx hb (kn_dec tX8_hiding 10 rfl) (by decide) ?_
      exact kw_iret hx hb hr hlocks I (v_w, v_z, v_pr) rfl h (kn_dec tX8_hiding 11 rfl)
    · have h := h.2 c4
      refine lv_iload_n hx hb (kn_dec tX8_hiding 7 rfl) rfl (lv_at hl 1 rfl) ?_
      refine lv_bipush (v := (60)) hx hb (kn_dec tX8_hiding 8 rfl) (by decide) ?_
      refine lv_icmp_le (tgt := 21) hx hb (kn_dec tX8_hiding 9 rfl) (by decide) (fun c5 => ?_) (fun c5 => ?_)
      · have h := h.1 c5
        refine lv_bipush (v := (-2)) hx hb (kn_dec tX8_hiding 12 rfl) (by decide) ?_
        refine lv_istore_n (lv' := [(3, .int _), (0, .ref (ad_t 0)), (1, .int _), (2, .int _)]) hx hb (kn_dec tX8_hiding 13 rfl) rfl hl (by decide) rfl (fun ls hl => ?_)
        refine lv_bipush (v := (-2)) hx hb (kn_dec tX8_hiding 14 rfl) (by decide) ?_
        refine lv_istore (lv' := [(4, .int _), (3, .int _), (0, .ref (ad_t 0)), (1, .int _), (2, .int _)]) hx hb (kn_dec tX8_hiding 15 rfl) hl (by decide) rfl (fun ls hl => ?_)
        refine lv_iconst (v := (0)) hx hb (kn_dec tX8_hiding 16 rfl) (by decide) ?_
        refine lv_istore (lv' := [(5, .int _), (4, .int _), (3, .int _), (0, .ref (ad_t 0)), (1, .int _), (2, .int _)]) hx hb (kn_dec tX8_hiding 17 rfl) hl (by decide) rfl (fun ls hl => ?_)
        refine lv_iconst (v := (0)) hx hb (kn_dec tX8_hiding 18 rfl) (by decide) ?_
        refine lv_istore (lv' := [(6, .int _), (5, .int _), (4, .int _), (3, .int _), (0, .ref (ad_t 0)), (1, .int _), (2, .int _)]) hx hb (kn_dec tX8_hiding 19 rfl) hl (by decide) rfl (fun ls hl => ?_)
        obtain ⟨n6, h⟩ := h
        exact wX8_hiding_L34 X e_t_6 e_c_0 e_c_3 e_t_8 e_t_9 p_t_4 n6 _ _ _ _ _ _ _ _ _ _ _ _ (Or.inl rfl) I (lv_sub hl [4, 5, 6, 3, 2, 1, 0] rfl) h
      · have h := h.2 c5
        refine lv_iconst (v := (-1)) hx hb (kn_dec tX8_hiding 10 rfl) (by decide) ?_
        exact kw_iret hx hb hr hlocks I (v_w, v_z, v_pr) rfl h (kn_dec tX8_hiding 11 rfl)

/-! X8_worth -/
abbrev rmX8_worth : Room := { frames := 7, cells := 0, slots := 0, locals := 191 }
def PX8_worth_L49 (v_t : OV) (v_c : OV) (v_h : OV) (v_s : OV) (gn_pr : Nat)  (post : Int32 → OV → OV → (Nat → OV) → Prop) : Nat → Int32 → Int32 → OV → OV → (Nat → OV) → Prop
  | 0, _, _, _, _, _ => False
  | n + 1, y2, y3, v_w, v_z, v_pr => (((v_h.1 9) ≤ y3 → post y2 v_w v_z v_pr) ∧ (¬ (v_h.1 9) ≤ y3 → (vp_in y3 6 ∧ (∀ x3 : Int32, x3 = (y2 + (v_z.2.1 4 y3.toNatClampNeg)) → (∀ x4 : Int32, x4 = y3 + (1 : Int32) → PX8_worth_L49 v_t v_c v_h v_s gn_pr post n x3 x4 v_w v_z v_pr)))))
set_option maxRecDepth 100000 in
set_option maxHeartbeats 1000000 in
theorem wX8_worth_L49 {v_t : OV} {v_c : OV} {v_h : OV} {v_s : OV} {gn_pr : Nat}  {post : Int32 → OV → OV → (Nat → OV) → Prop} {ad_t : Nat → Nat} {ad_c : Nat → Nat} {ad_h : Nat → Nat} {ad_s : Nat → Nat} {ad_w : Nat → Nat} {ad_z : Nat → Nat} {ad_pr : Nat → Nat → Nat} (X : kn_X p s m args meth c cX8_worth 4 (some .int) RX8 kn_all D tc Z (kn_A w0 s.heap.size)) (e_t_6 : ad_t (6 + 1) = ad_c 0) (e_c_0 : ad_c (0 + 1) = ad_h 0) (e_c_3 : ad_c (3 + 1) = ad_s 0) (e_t_8 : ad_t (8 + 1) = ad_w 0) (e_t_9 : ad_t (9 + 1) = ad_z 0) (p_t_4 : ∀ i, i < gn_pr → kn_q ad_t 4 i = some (ad_pr i 0))   : ∀ n : Nat, ∀ (H : Heap) (locs : List Loc) (ls : Array Slot) (y2 : Int32) (y3 : Int32) (v_w : OV) (v_z : OV) (v_pr : (Nat → OV)), kn_I D tc (kn_A w0 s.heap.size) s.heap (List.flatten [[(kTin, ad_t, v_t)], [(kScene, ad_c, v_c)], [(kHill, ad_h, v_h)], [(kState, ad_s, v_s)], [(kWalk, ad_w, v_w)], [(kState, ad_z, v_z)], kn_pool kRule gn_pr ad_pr v_pr]) H locs → lv_has ls 4 [(0, .ref (ad_t 0)), (2, .int y2), (3, .int y3)] → PX8_worth_L49 v_t v_c v_h v_s gn_pr post n y2 y3 v_w v_z v_pr → W p l e rmX8_worth s m args below meth c H locs 0 0 (kn_Qi D tc w0 (fun (u : OV × OV × (Nat → OV)) => (List.flatten [[(kTin, ad_t, v_t)], [(kScene, ad_c, v_c)], [(kHill, ad_h, v_h)], [(kState, ad_s, v_s)], [(kWalk, ad_w, u.1)], [(kState, ad_z, u.2.1)], kn_pool kRule gn_pr ad_pr u.2.2])) (fun (r : Int32) (u : OV × OV × (Nat → OV)) => post r u.1 u.2.1 u.2.2) below args s 0 0) (F0 m 49 ls []) := by
  obtain ⟨S0, hr, hlocks, hK, hZ, hA⟩ := id X
  obtain ⟨hx, hb, hml, hown, hts⟩ := id S0
  intro n
  induction n with
  | zero =>
    intro H locs ls y2 y3 v_w v_z v_pr I hl h
    unfold PX8_worth_L49 at h
    exact h.elim
  | succ n ih =>
    intro H locs ls y2 y3 v_w v_z v_pr I hl h
    unfold PX8_worth_L49 at h
    refine lv_iload_n hx hb (kn_dec tX8_worth 26 rfl) rfl (lv_at hl 2 rfl) ?_
    refine lv_aload_n hx hb (kn_dec tX8_worth 27 rfl) rfl (lv_at hl 0 rfl) ?_
    refine kw_getl hx hb hts inX8 hown hK I 0 rfl rfl 6 (by decide) rfl (hts _ q2_105) (kn_dec tX8_worth 28 rfl) e_t_6 ?_
    refine kw_getl hx hb hts inX5 hown hK I 1 rfl rfl 0 (by decide) rfl (hts _ q2_28) (kn_dec tX8_worth 29 rfl) e_c_0 ?_
    refine kw_geti hx hb hts inX0 hown hK I 2 rfl rfl 9 (by decide) rfl (hts _ q1_150) (kn_dec tX8_worth 30 rfl) ?_
    refine lv_icmp_ge (tgt := 81) hx hb (kn_dec tX8_worth 31 rfl) (by decide) (fun c1 => ?_) (fun c1 => ?_)
    · have h := h.1 c1
      refine lv_iload_n hx hb (kn_dec tX8_worth 42 rfl) rfl (lv_at hl 1 rfl) ?_
      exact kw_iret hx hb hr hlocks I (v_w, v_z, v_pr) rfl h (kn_dec tX8_worth 43 rfl)
    · have h := h.2 c1
      refine lv_iload_n hx hb (kn_dec tX8_worth 32 rfl) rfl (lv_at hl 1 rfl) ?_
      refine lv_aload_n hx hb (kn_dec tX8_worth 33 rfl) rfl (lv_at hl 0 rfl) ?_
      refine kw_getl hx hb hts inX8 hown hK I 0 rfl rfl 9 (by decide) rfl (hts _ q2_108) (kn_dec tX8_worth 34 rfl) e_t_9 ?_
      refine kw_getl hx hb hts inX6 hown hK I 5 rfl rfl 4 (by decide) rfl (hts _ q1_234) (kn_dec tX8_worth 35 rfl) rfl ?_
      refine lv_iload_n hx hb (kn_dec tX8_worth 36 rfl) rfl (lv_at hl 2 rfl) ?_
      obtain ⟨hs2, h⟩ := h
      refine kw_iald hx hb hK I 5 rfl 4 6 (List.mem_of_getElem? (i := 1) rfl) hs2 (kn_dec tX8_worth 37 rfl) ?_
      refine lv_iadd hx hb (kn_dec tX8_worth 38 rfl) ?_
      refine lv_topi (fun x3 ex3 => ?_)
      have h := h x3 ex3
      refine lv_istore_n (lv' := [(2, .int _), (0, .ref (ad_t 0)), (3, .int _)]) hx hb (kn_dec tX8_worth 39 rfl) rfl hl (by decide) rfl (fun ls hl => ?_)
      refine kw_iinc (lvf := fun y => [(3, .int y), (2, .int _), (0, .ref (ad_t 0))]) (nv := (1)) hx hb (kn_dec tX8_worth 40 rfl) hl (k := 2) rfl (by decide) (by decide) (fun _ => rfl) (fun x4 ex4 ls hl => ?_)
      have h := h x4 ex4
      refine lv_goto (tgt := 49) hx hb (kn_dec tX8_worth 41 rfl) (by decide) ?_
      exact ih _ _ _ _ _ _ _ _  I (lv_sub hl [2, 1, 0] rfl) h
def PX8_worth  (v_t : OV) (v_c : OV) (v_h : OV) (v_s : OV) (v_w : OV) (v_z : OV) (v_pr : (Nat → OV)) (gn_pr : Nat) (a1 : Int32) (post : Int32 → OV → OV → (Nat → OV) → Prop) : Prop := (((v_h.1 0) = ((0 : Int32)) → post ((-1 : Int32)) v_w v_z v_pr) ∧ (¬ (v_h.1 0) = ((0 : Int32)) → ((a1 < ((0 : Int32)) → post ((-1 : Int32)) v_w v_z v_pr) ∧ (¬ a1 < ((0 : Int32)) → ((a1 ≤ ((100 : Int32)) → (PX6_copy v_z v_s (fun v_z4 => (PX8_goOn v_t v_c v_h v_w v_z4 v_pr gn_pr a1 (fun r9 v_w6 v_z7 v_pr8 => (∃ n11 : Nat, PX8_worth_L49 v_t v_c v_h v_s gn_pr post n11 ((0 : Int32)) ((0 : Int32)) v_w6 v_z7 v_pr8)))))) ∧ (¬ a1 ≤ ((100 : Int32)) → post ((-1 : Int32)) v_w v_z v_pr))))))
set_option maxRecDepth 100000 in
set_option maxHeartbeats 1000000 in
theorem ctX8_worth {l : Launch} {D : va_G} {tc : Nat → ClassId} {Z : (Nat → Nat) × (Nat → Nat)}  {ad_t : Nat → Nat} {ad_c : Nat → Nat} {ad_h : Nat → Nat} {ad_s : Nat → Nat} {ad_w : Nat → Nat} {ad_z : Nat → Nat} {ad_pr : Nat → Nat → Nat} {v_t : OV} {v_c : OV} {v_h : OV} {v_s : OV} {v_w : OV} {v_z : OV} {v_pr : (Nat → OV)} {gn_pr : Nat} {a1 : Int32} (e_t_6 : ad_t (6 + 1) = ad_c 0) (e_c_0 : ad_c (0 + 1) = ad_h 0) (e_c_3 : ad_c (3 + 1) = ad_s 0) (e_t_8 : ad_t (8 + 1) = ad_w 0) (e_t_9 : ad_t (9 + 1) = ad_z 0) (p_t_4 : ∀ i, i < gn_pr → kn_q ad_t 4 i = some (ad_pr i 0))   {post : Int32 → OV → OV → (Nat → OV) → Prop} (h : PX8_worth  v_t v_c v_h v_s v_w v_z v_pr gn_pr a1 post) : CTi l D tc Z yX8_worth (Cond.code yX8_worth cX8_worth 4 (some .int) :: kn_all) rmX8_worth 0 0 [.ref (ad_t 0), .int a1] (List.flatten [[(kTin, ad_t, v_t)], [(kScene, ad_c, v_c)], [(kHill, ad_h, v_h)], [(kState, ad_s, v_s)], [(kWalk, ad_w, v_w)], [(kState, ad_z, v_z)], kn_pool kRule gn_pr ad_pr v_pr]) (fun (u : OV × OV × (Nat → OV)) => (List.flatten [[(kTin, ad_t, v_t)], [(kScene, ad_c, v_c)], [(kHill, ad_h, v_h)], [(kState, ad_s, v_s)], [(kWalk, ad_w, u.1)], [(kState, ad_z, u.2.1)], kn_pool kRule gn_pr ad_pr u.2.2])) (fun (r : Int32) (u : OV × OV × (Nat → OV)) => post r u.1 u.2.1 u.2.2) := by
  refine kn_ofi (cc := cX8_worth) (nL := 4) (ret := (some .int)) (lv := [(0, .ref (ad_t 0)), (1, .int a1)]) (by decide) (Nat.le_of_ble_eq_true rfl) rfl (fun p e s m below meth c ls X I hl _ => ?_)
  obtain ⟨S0, hr, hlocks, hK, hZ, hA⟩ := id X
  obtain ⟨hx, hb, hml, hown, hts⟩ := id S0
  unfold PX8_worth at h
  refine lv_aload_n hx hb (kn_dec tX8_worth 0 rfl) rfl (lv_at hl 0 rfl) ?_
  refine kw_getl hx hb hts inX8 hown hK I 0 rfl rfl 6 (by decide) rfl (hts _ q2_105) (kn_dec tX8_worth 1 rfl) e_t_6 ?_
  refine kw_getl hx hb hts inX5 hown hK I 1 rfl rfl 0 (by decide) rfl (hts _ q2_28) (kn_dec tX8_worth 2 rfl) e_c_0 ?_
  refine kw_geti hx hb hts inX0 hown hK I 2 rfl rfl 0 (by decide) rfl (hts _ q1_119) (kn_dec tX8_worth 3 rfl) ?_
  refine lv_if_eq (tgt := 23) hx hb (kn_dec tX8_worth 4 rfl) (by decide) (fun c1 => ?_) (fun c1 => ?_)
  · have h := h.1 c1
    refine lv_iconst (v := (-1)) hx hb (kn_dec tX8_worth 10 rfl) (by decide) ?_
    exact kw_iret hx hb hr hlocks I (v_w, v_z, v_pr) rfl h (kn_dec tX8_worth 11 rfl)
  · have h := h.2 c1
    refine lv_iload_n hx hb (kn_dec tX8_worth 5 rfl) rfl (lv_at hl 1 rfl) ?_
    refine lv_if_lt (tgt := 23) hx hb (kn_dec tX8_worth 6 rfl) (by decide) (fun c2 => ?_) (fun c2 => ?_)
    · have h := h.1 c2
      refine lv_iconst (v := (-1)) hx hb (kn_dec tX8_worth 10 rfl) (by decide) ?_
      exact kw_iret hx hb hr hlocks I (v_w, v_z, v_pr) rfl h (kn_dec tX8_worth 11 rfl)
    · have h := h.2 c2
      refine lv_iload_n hx hb (kn_dec tX8_worth 7 rfl) rfl (lv_at hl 1 rfl) ?_
      refine lv_bipush (v := (100)) hx hb (kn_dec tX8_worth 8 rfl) (by decide) ?_
      refine lv_icmp_le (tgt := 25) hx hb (kn_dec tX8_worth 9 rfl) (by decide) (fun c3 => ?_) (fun c3 => ?_)
      · have h := h.1 c3
        refine lv_aload_n hx hb (kn_dec tX8_worth 12 rfl) rfl (lv_at hl 0 rfl) ?_
        refine kw_getl hx hb hts inX8 hown hK I 0 rfl rfl 9 (by decide) rfl (hts _ q2_108) (kn_dec tX8_worth 13 rfl) e_t_9 ?_
        refine lv_aload_n hx hb (kn_dec tX8_worth 14 rfl) rfl (lv_at hl 0 rfl) ?_
        refine kw_getl hx hb hts inX8 hown hK I 0 rfl rfl 6 (by decide) rfl (hts _ q2_105) (kn_dec tX8_worth 15 rfl) e_t_6 ?_
        refine kw_getl hx hb hts inX5 hown hK I 1 rfl rfl 3 (by decide) rfl (hts _ q2_34) (kn_dec tX8_worth 16 rfl) e_c_3 ?_
        have I : kn_I D tc (kn_A _ s.heap.size) s.heap ([(kState, ad_z, _), (kState, ad_s, _)] ++ (List.flatten [[(kTin, ad_t, _)], [(kScene, ad_c, _)], [(kHill, ad_h, _)], [(kWalk, ad_w, _)], kn_pool kRule gn_pr ad_pr _])) _ _ := I.perm (kn_segA (segs := [[(kTin, ad_t, _)], [(kScene, ad_c, _)], [(kHill, ad_h, _)], [(kState, ad_s, _)], [(kWalk, ad_w, _)], [(kState, ad_z, _)], kn_pool kRule gn_pr ad_pr _]) (sC := [[(kState, ad_z, _)], [(kState, ad_s, _)]]) (sR := [[(kTin, ad_t, _)], [(kScene, ad_c, _)], [(kHill, ad_h, _)], [(kWalk, ad_w, _)], kn_pool kRule gn_pr ad_pr _]) [5, 3, 0, 1, 2, 4, 6] rfl rfl)
        refine kw_callv (wc := [(kState, ad_z, _), (kState, ad_s, _)]) (wr := (List.flatten [[(kTin, ad_t, _)], [(kScene, ad_c, _)], [(kHill, ad_h, _)], [(kWalk, ad_w, _)], kn_pool kRule gn_pr ad_pr _])) I hA (kn_pl1 _ _) (kn_pl2 _ _) (kn_pl1_ok _ _) (kn_pl2_ok _ _) (kn_pl2_nd _ _) (kn_pl_dis _ _) (kn_runV (As := [.ref (ad_s 0)]) S0 hK hZ hA I ((ctX6_copy h).met _) (kn_cwV 1 hts q4_44 q3_171 q3_172 q1_8 q3_173 rfl rfl (by decide +kernel) ⟨(Nat.le_of_ble_eq_true rfl), (Nat.le_of_ble_eq_true rfl)⟩) (kn_pl1 _ _) (kn_pl1_ok _ _) (kn_pl1_nd _ _) 0 rfl rfl rfl rfl hl.1 rfl (Nat.le_of_ble_eq_true rfl) (kn_dec tX8_worth 17 rfl) ⟨(Nat.le_of_ble_eq_true rfl), (Nat.le_of_ble_eq_true rfl)⟩) (fun u5 H locs h I => ?_)
        have I : kn_I D tc (kn_A _ s.heap.size) s.heap (List.flatten [[(kTin, ad_t, _)], [(kScene, ad_c, _)], [(kHill, ad_h, _)], [(kState, ad_s, _)], [(kWalk, ad_w, _)], [(kState, ad_z, _)], kn_pool kRule gn_pr ad_pr _]) _ _ := I.perm (kn_segB (sC := [[(kTin, ad_t, _)], [(kScene, ad_c, _)], [(kHill, ad_h, _)], [(kWalk, ad_w, _)], kn_pool kRule gn_pr ad_pr _]) (sR := [[(kState, ad_z, _)], [(kState, ad_s, _)]]) (segs := [[(kTin, ad_t, _)], [(kScene, ad_c, _)], [(kHill, ad_h, _)], [(kState, ad_s, _)], [(kWalk, ad_w, _)], [(kState, ad_z, _)], kn_pool kRule gn_pr ad_pr _]) [0, 1, 2, 6, 3, 5, 4] rfl rfl)
        refine lv_aload_n hx hb (kn_dec tX8_worth 18 rfl) rfl (lv_at hl 0 rfl) ?_
        refine lv_iload_n hx hb (kn_dec tX8_worth 19 rfl) rfl (lv_at hl 1 rfl) ?_
        have I : kn_I D tc (kn_A _ s.heap.size) s.heap ((List.flatten [[(kTin, ad_t, _)], [(kScene, ad_c, _)], [(kHill, ad_h, _)], [(kWalk, ad_w, _)], [(kState, ad_z, _)], kn_pool kRule gn_pr ad_pr _]) ++ (List.flatten [[(kState, ad_s, _)]])) _ _ := I.perm (kn_segA (segs := [[(kTin, ad_t, _)], [(kScene, ad_c, _)], [(kHill, ad_h, _)], [(kState, ad_s, _)], [(kWalk, ad_w, _)], [(kState, ad_z, _)], kn_pool kRule gn_pr ad_pr _]) (sC := [[(kTin, ad_t, _)], [(kScene, ad_c, _)], [(kHill, ad_h, _)], [(kWalk, ad_w, _)], [(kState, ad_z, _)], kn_pool kRule gn_pr ad_pr _]) (sR := [[(kState, ad_s, _)]]) [0, 1, 2, 4, 5, 6, 3] rfl rfl)
        refine kw_calli (wc := (List.flatten [[(kTin, ad_t, _)], [(kScene, ad_c, _)], [(kHill, ad_h, _)], [(kWalk, ad_w, _)], [(kState, ad_z, _)], kn_pool kRule gn_pr ad_pr _])) (wr := (List.flatten [[(kState, ad_s, _)]])) I hA (kn_pl1 _ _) (kn_pl2 _ _) (kn_pl1_ok _ _) (kn_pl2_ok _ _) (kn_pl2_nd _ _) (kn_pl_dis _ _) (kn_runV (As := [.int _]) S0 hK hZ hA I ((ctX8_goOn e_t_6 e_c_0 e_t_8 e_t_9 p_t_4 h).met _) (kn_cwV 1 hts q4_45 q4_47 q0_21 q1_1 q4_48 rfl rfl (by decide +kernel) ⟨(Nat.le_of_ble_eq_true rfl), (Nat.le_of_ble_eq_true rfl)⟩) (kn_pl1 _ _) (kn_pl1_ok _ _) (kn_pl1_nd _ _) 0 rfl rfl rfl rfl hl.1 rfl (Nat.le_of_ble_eq_true rfl) (kn_dec tX8_worth 20 rfl) ⟨(Nat.le_of_ble_eq_true rfl), (Nat.le_of_ble_eq_true rfl)⟩) (fun r9 u10 H locs h I => ?_)
        have I : kn_I D tc (kn_A _ s.heap.size) s.heap (List.flatten [[(kTin, ad_t, _)], [(kScene, ad_c, _)], [(kHill, ad_h, _)], [(kState, ad_s, _)], [(kWalk, ad_w, _)], [(kState, ad_z, _)], kn_pool kRule gn_pr ad_pr _]) _ _ := I.perm (kn_segB (sC := [[(kState, ad_s, _)]]) (sR := [[(kTin, ad_t, _)], [(kScene, ad_c, _)], [(kHill, ad_h, _)], [(kWalk, ad_w, _)], [(kState, ad_z, _)], kn_pool kRule gn_pr ad_pr _]) (segs := [[(kTin, ad_t, _)], [(kScene, ad_c, _)], [(kHill, ad_h, _)], [(kState, ad_s, _)], [(kWalk, ad_w, _)], [(kState, ad_z, _)], kn_pool kRule gn_pr ad_pr _]) [1, 2, 3, 0, 4, 5, 6] rfl rfl)
        refine lv_pop hx hb (kn_dec tX8_worth 21 rfl) rfl ?_
        refine lv_iconst (v := (0)) hx hb (kn_dec tX8_worth 22 rfl) (by decide) ?_
        refine lv_istore_n (lv' := [(2, .int _), (0, .ref (ad_t 0)), (1, .int _)]) hx hb (kn_dec tX8_worth 23 rfl) rfl hl (by decide) rfl (fun ls hl => ?_)
        refine lv_iconst (v := (0)) hx hb (kn_dec tX8_worth 24 rfl) (by decide) ?_
        refine lv_istore_n (lv' := [(3, .int _), (2, .int _), (0, .ref (ad_t 0)), (1, .int _)]) hx hb (kn_dec tX8_worth 25 rfl) rfl hl (by decide) rfl (fun ls hl => ?_)
        obtain ⟨n11, h⟩ := h
        exact wX8_worth_L49 X e_t_6 e_c_0 e_c_3 e_t_8 e_t_9 p_t_4 n11 _ _ _ _ _ _ _ _  I (lv_sub hl [2, 1, 0] rfl) h
      · have h := h.2 c3
        refine lv_iconst (v := (-1)) hx hb (kn_dec tX8_worth 10 rfl) (by decide) ?_
        exact kw_iret hx hb hr hlocks I (v_w, v_z, v_pr) rfl h (kn_dec tX8_worth 11 rfl)

/-! X8_wanders -/
abbrev rmX8_wanders : Room := { frames := 7, cells := 0, slots := 0, locals := 191 }
def PX8_wanders_L53 (v_t : OV) (v_c : OV) (v_h : OV) (v_s : OV) (gn_pr : Nat)  (post : Int32 → OV → OV → (Nat → OV) → Prop) : Nat → Int32 → Int32 → Int32 → OV → OV → (Nat → OV) → Prop
  | 0, _, _, _, _, _, _ => False
  | n + 1, y1, y2, y3, v_w, v_z, v_pr => ((y1 ≤ y3 → (PJ6_bitCount_0f7a4 y2 (fun r2 => post r2 v_w v_z v_pr))) ∧ (¬ y1 ≤ y3 → (PX8_goOn v_t v_c v_h v_w v_z v_pr gn_pr ((1 : Int32)) (fun r7 v_w4 v_z5 v_pr6 => (PX8_bit (v_z5.1 2) (fun r9 => (∀ x11 : Int32, x11 = (y2 ||| r9) → (∀ x12 : Int32, x12 = y3 + (1 : Int32) → PX8_wanders_L53 v_t v_c v_h v_s gn_pr post n y1 x11 x12 v_w4 v_z5 v_pr6))))))))
set_option maxRecDepth 100000 in
set_option maxHeartbeats 1000000 in
theorem wX8_wanders_L53 {v_t : OV} {v_c : OV} {v_h : OV} {v_s : OV} {gn_pr : Nat}  {post : Int32 → OV → OV → (Nat → OV) → Prop} {ad_t : Nat → Nat} {ad_c : Nat → Nat} {ad_h : Nat → Nat} {ad_s : Nat → Nat} {ad_w : Nat → Nat} {ad_z : Nat → Nat} {ad_pr : Nat → Nat → Nat} (X : kn_X p s m args meth c cX8_wanders 4 (some .int) RX8 kn_all D tc Z (kn_A w0 s.heap.size)) (e_t_6 : ad_t (6 + 1) = ad_c 0) (e_c_0 : ad_c (0 + 1) = ad_h 0) (e_c_3 : ad_c (3 + 1) = ad_s 0) (e_t_8 : ad_t (8 + 1) = ad_w 0) (e_t_9 : ad_t (9 + 1) = ad_z 0) (p_t_4 : ∀ i, i < gn_pr → kn_q ad_t 4 i = some (ad_pr i 0))   : ∀ n : Nat, ∀ (H : Heap) (locs : List Loc) (ls : Array Slot) (y1 : Int32) (y2 : Int32) (y3 : Int32) (v_w : OV) (v_z : OV) (v_pr : (Nat → OV)), kn_I D tc (kn_A w0 s.heap.size) s.heap (List.flatten [[(kTin, ad_t, v_t)], [(kScene, ad_c, v_c)], [(kHill, ad_h, v_h)], [(kState, ad_s, v_s)], [(kWalk, ad_w, v_w)], [(kState, ad_z, v_z)], kn_pool kRule gn_pr ad_pr v_pr]) H locs → lv_has ls 4 [(0, .ref (ad_t 0)), (1, .int y1), (2, .int y2), (3, .int y3)] → PX8_wanders_L53 v_t v_c v_h v_s gn_pr post n y1 y2 y3 v_w v_z v_pr → W p l e rmX8_wanders s m args below meth c H locs 0 0 (kn_Qi D tc w0 (fun (u : OV × OV × (Nat → OV)) => (List.flatten [[(kTin, ad_t, v_t)], [(kScene, ad_c, v_c)], [(kHill, ad_h, v_h)], [(kState, ad_s, v_s)], [(kWalk, ad_w, u.1)], [(kState, ad_z, u.2.1)], kn_pool kRule gn_pr ad_pr u.2.2])) (fun (r : Int32) (u : OV × OV × (Nat → OV)) => post r u.1 u.2.1 u.2.2) below args s 0 0) (F0 m 53 ls []) := by
  obtain ⟨S0, hr, hlocks, hK, hZ, hA⟩ := id X
  obtain ⟨hx, hb, hml, hown, hts⟩ := id S0
  intro n
  induction n with
  | zero =>
    intro H locs ls y1 y2 y3 v_w v_z v_pr I hl h
    unfold PX8_wanders_L53 at h
    exact h.elim
  | succ n ih =>
    intro H locs ls y1 y2 y3 v_w v_z v_pr I hl h
    unfold PX8_wanders_L53 at h
    refine lv_iload_n hx hb (kn_dec tX8_wanders 26 rfl) rfl (lv_at hl 3 rfl) ?_
    refine lv_iload_n hx hb (kn_dec tX8_wanders 27 rfl) rfl (lv_at hl 1 rfl) ?_
    refine lv_icmp_ge (tgt := 83) hx hb (kn_dec tX8_wanders 28 rfl) (by decide) (fun c1 => ?_) (fun c1 => ?_)
    · have h := h.1 c1
      refine lv_iload_n hx hb (kn_dec tX8_wanders 42 rfl) rfl (lv_at hl 2 rfl) ?_
      have I : kn_I D tc (kn_A w0 s.heap.size) s.heap ([] ++ (List.flatten [[(kTin, ad_t, _)], [(kScene, ad_c, _)], [(kHill, ad_h, _)], [(kState, ad_s, _)], [(kWalk, ad_w, _)], [(kState, ad_z, _)], kn_pool kRule gn_pr ad_pr _])) _ _ := I.perm (kn_segA (segs := [[(kTin, ad_t, _)], [(kScene, ad_c, _)], [(kHill, ad_h, _)], [(kState, ad_s, _)], [(kWalk, ad_w, _)], [(kState, ad_z, _)], kn_pool kRule gn_pr ad_pr _]) (sC := []) (sR := [[(kTin, ad_t, _)], [(kScene, ad_c, _)], [(kHill, ad_h, _)], [(kState, ad_s, _)], [(kWalk, ad_w, _)], [(kState, ad_z, _)], kn_pool kRule gn_pr ad_pr _]) [0, 1, 2, 3, 4, 5, 6] rfl rfl)
      refine kw_calli (wc := []) (wr := (List.flatten [[(kTin, ad_t, _)], [(kScene, ad_c, _)], [(kHill, ad_h, _)], [(kState, ad_s, _)], [(kWalk, ad_w, _)], [(kState, ad_z, _)], kn_pool kRule gn_pr ad_pr _])) I hA (kn_pl1 _ _) (kn_pl2 _ _) (kn_pl1_ok _ _) (kn_pl2_ok _ _) (kn_pl2_nd _ _) (kn_pl_dis _ _) (kn_runS (As := [.int _]) S0 hK hZ hA I ((ctJ6_bitCount_0f7a4 h).met _) (kn_cwS 1 hts q4_85 q3_204 q1_17 q3_205 rfl rfl (by decide +kernel) ⟨(Nat.le_of_ble_eq_true rfl), (Nat.le_of_ble_eq_true rfl)⟩) (kn_pl1 _ _) (kn_pl1_ok _ _) (kn_pl1_nd _ _) rfl hl.1 rfl (Nat.le_of_ble_eq_true rfl) (kn_dec tX8_wanders 43 rfl) ⟨(Nat.le_of_ble_eq_true rfl), (Nat.le_of_ble_eq_true rfl)⟩) (fun r2 u3 H locs h I => ?_)
      have I : kn_I D tc (kn_A w0 s.heap.size) s.heap (List.flatten [[(kTin, ad_t, _)], [(kScene, ad_c, _)], [(kHill, ad_h, _)], [(kState, ad_s, _)], [(kWalk, ad_w, _)], [(kState, ad_z, _)], kn_pool kRule gn_pr ad_pr _]) _ _ := I.perm (kn_segB (sC := [[(kTin, ad_t, _)], [(kScene, ad_c, _)], [(kHill, ad_h, _)], [(kState, ad_s, _)], [(kWalk, ad_w, _)], [(kState, ad_z, _)], kn_pool kRule gn_pr ad_pr _]) (sR := []) (segs := [[(kTin, ad_t, _)], [(kScene, ad_c, _)], [(kHill, ad_h, _)], [(kState, ad_s, _)], [(kWalk, ad_w, _)], [(kState, ad_z, _)], kn_pool kRule gn_pr ad_pr _]) [0, 1, 2, 3, 4, 5, 6] rfl rfl)
      exact kw_iret hx hb hr hlocks I (v_w, v_z, v_pr) rfl h (kn_dec tX8_wanders 44 rfl)
    · have h := h.2 c1
      refine lv_aload_n hx hb (kn_dec tX8_wanders 29 rfl) rfl (lv_at hl 0 rfl) ?_
      refine lv_iconst (v := (1)) hx hb (kn_dec tX8_wanders 30 rfl) (by decide) ?_
      have I : kn_I D tc (kn_A w0 s.heap.size) s.heap ((List.flatten [[(kTin, ad_t, _)], [(kScene, ad_c, _)], [(kHill, ad_h, _)], [(kWalk, ad_w, _)], [(kState, ad_z, _)], kn_pool kRule gn_pr ad_pr _]) ++ (List.flatten [[(kState, ad_s, _)]])) _ _ := I.perm (kn_segA (segs := [[(kTin, ad_t, _)], [(kScene, ad_c, _)], [(kHill, ad_h, _)], [(kState, ad_s, _)], [(kWalk, ad_w, _)], [(kState, ad_z, _)], kn_pool kRule gn_pr ad_pr _]) (sC := [[(kTin, ad_t, _)], [(kScene, ad_c, _)], [(kHill, ad_h, _)], [(kWalk, ad_w, _)], [(kState, ad_z, _)], kn_pool kRule gn_pr ad_pr _]) (sR := [[(kState, ad_s, _)]]) [0, 1, 2, 4, 5, 6, 3] rfl rfl)
      refine kw_calli (wc := (List.flatten [[(kTin, ad_t, _)], [(kScene, ad_c, _)], [(kHill, ad_h, _)], [(kWalk, ad_w, _)], [(kState, ad_z, _)], kn_pool kRule gn_pr ad_pr _])) (wr := (List.flatten [[(kState, ad_s, _)]])) I hA (kn_pl1 _ _) (kn_pl2 _ _) (kn_pl1_ok _ _) (kn_pl2_ok _ _) (kn_pl2_nd _ _) (kn_pl_dis _ _) (kn_runV (As := [.int _]) S0 hK hZ hA I ((ctX8_goOn e_t_6 e_c_0 e_t_8 e_t_9 p_t_4 h).met _) (kn_cwV 1 hts q4_45 q4_47 q0_21 q1_1 q4_48 rfl rfl (by decide +kernel) ⟨(Nat.le_of_ble_eq_true rfl), (Nat.le_of_ble_eq_true rfl)⟩) (kn_pl1 _ _) (kn_pl1_ok _ _) (kn_pl1_nd _ _) 0 rfl rfl rfl rfl hl.1 rfl (Nat.le_of_ble_eq_true rfl) (kn_dec tX8_wanders 31 rfl) ⟨(Nat.le_of_ble_eq_true rfl), (Nat.le_of_ble_eq_true rfl)⟩) (fun r7 u8 H locs h I => ?_)
      have I : kn_I D tc (kn_A w0 s.heap.size) s.heap (List.flatten [[(kTin, ad_t, _)], [(kScene, ad_c, _)], [(kHill, ad_h, _)], [(kState, ad_s, _)], [(kWalk, ad_w, _)], [(kState, ad_z, _)], kn_pool kRule gn_pr ad_pr _]) _ _ := I.perm (kn_segB (sC := [[(kState, ad_s, _)]]) (sR := [[(kTin, ad_t, _)], [(kScene, ad_c, _)], [(kHill, ad_h, _)], [(kWalk, ad_w, _)], [(kState, ad_z, _)], kn_pool kRule gn_pr ad_pr _]) (segs := [[(kTin, ad_t, _)], [(kScene, ad_c, _)], [(kHill, ad_h, _)], [(kState, ad_s, _)], [(kWalk, ad_w, _)], [(kState, ad_z, _)], kn_pool kRule gn_pr ad_pr _]) [1, 2, 3, 0, 4, 5, 6] rfl rfl)
      refine lv_pop hx hb (kn_dec tX8_wanders 32 rfl) rfl ?_
      refine lv_iload_n hx hb (kn_dec tX8_wanders 33 rfl) rfl (lv_at hl 2 rfl) ?_
      refine lv_aload_n hx hb (kn_dec tX8_wanders 34 rfl) rfl (lv_at hl 0 rfl) ?_
      refine kw_getl hx hb hts inX8 hown hK I 0 rfl rfl 9 (by decide) rfl (hts _ q2_108) (kn_dec tX8_wanders 35 rfl) e_t_9 ?_
      refine kw_geti hx hb hts inX6 hown hK I 5 rfl rfl 2 (by decide) rfl (hts _ q1_227) (kn_dec tX8_wanders 36 rfl) ?_
      have I : kn_I D tc (kn_A w0 s.heap.size) s.heap ([] ++ (List.flatten [[(kTin, ad_t, _)], [(kScene, ad_c, _)], [(kHill, ad_h, _)], [(kState, ad_s, _)], [(kWalk, ad_w, _)], [(kState, ad_z, _)], kn_pool kRule gn_pr ad_pr _])) _ _ := I.perm (kn_segA (segs := [[(kTin, ad_t, _)], [(kScene, ad_c, _)], [(kHill, ad_h, _)], [(kState, ad_s, _)], [(kWalk, ad_w, _)], [(kState, ad_z, _)], kn_pool kRule gn_pr ad_pr _]) (sC := []) (sR := [[(kTin, ad_t, _)], [(kScene, ad_c, _)], [(kHill, ad_h, _)], [(kState, ad_s, _)], [(kWalk, ad_w, _)], [(kState, ad_z, _)], kn_pool kRule gn_pr ad_pr _]) [0, 1, 2, 3, 4, 5, 6] rfl rfl)
      refine kw_calli (wc := []) (wr := (List.flatten [[(kTin, ad_t, _)], [(kScene, ad_c, _)], [(kHill, ad_h, _)], [(kState, ad_s, _)], [(kWalk, ad_w, _)], [(kState, ad_z, _)], kn_pool kRule gn_pr ad_pr _])) I hA (kn_pl1 _ _) (kn_pl2 _ _) (kn_pl1_ok _ _) (kn_pl2_ok _ _) (kn_pl2_nd _ _) (kn_pl_dis _ _) (kn_runS (As := [.int _]) S0 hK hZ hA I ((ctX8_bit h).met _) (kn_cwS 1 hts q4_82 q4_83 q1_1 q4_84 rfl rfl (by decide +kernel) ⟨(Nat.le_of_ble_eq_true rfl), (Nat.le_of_ble_eq_true rfl)⟩) (kn_pl1 _ _) (kn_pl1_ok _ _) (kn_pl1_nd _ _) rfl hl.1 rfl (Nat.le_of_ble_eq_true rfl) (kn_dec tX8_wanders 37 rfl) ⟨(Nat.le_of_ble_eq_true rfl), (Nat.le_of_ble_eq_true rfl)⟩) (fun r9 u10 H locs h I => ?_)
      have I : kn_I D tc (kn_A w0 s.heap.size) s.heap (List.flatten [[(kTin, ad_t, _)], [(kScene, ad_c, _)], [(kHill, ad_h, _)], [(kState, ad_s, _)], [(kWalk, ad_w, _)], [(kState, ad_z, _)], kn_pool kRule gn_pr ad_pr _]) _ _ := I.perm (kn_segB (sC := [[(kTin, ad_t, _)], [(kScene, ad_c, _)], [(kHill, ad_h, _)], [(kState, ad_s, _)], [(kWalk, ad_w, _)], [(kState, ad_z, _)], kn_pool kRule gn_pr ad_pr _]) (sR := []) (segs := [[(kTin, ad_t, _)], [(kScene, ad_c, _)], [(kHill, ad_h, _)], [(kState, ad_s, _)], [(kWalk, ad_w, _)], [(kState, ad_z, _)], kn_pool kRule gn_pr ad_pr _]) [0, 1, 2, 3, 4, 5, 6] rfl rfl)
      refine lv_ior hx hb (kn_dec tX8_wanders 38 rfl) ?_
      refine lv_topi (fun x11 ex11 => ?_)
      have h := h x11 ex11
      refine lv_istore_n (lv' := [(2, .int _), (0, .ref (ad_t 0)), (1, .int _), (3, .int _)]) hx hb (kn_dec tX8_wanders 39 rfl) rfl hl (by decide) rfl (fun ls hl => ?_)
      refine kw_iinc (lvf := fun y => [(3, .int y), (2, .int _), (0, .ref (ad_t 0)), (1, .int _)]) (nv := (1)) hx hb (kn_dec tX8_wanders 40 rfl) hl (k := 3) rfl (by decide) (by decide) (fun _ => rfl) (fun x12 ex12 ls hl => ?_)
      have h := h x12 ex12
      refine lv_goto (tgt := 53) hx hb (kn_dec tX8_wanders 41 rfl) (by decide) ?_
      exact ih _ _ _ _ _ _ _ _ _  I (lv_sub hl [2, 3, 1, 0] rfl) h
def PX8_wanders  (v_t : OV) (v_c : OV) (v_h : OV) (v_s : OV) (v_w : OV) (v_z : OV) (v_pr : (Nat → OV)) (gn_pr : Nat) (a1 : Int32) (post : Int32 → OV → OV → (Nat → OV) → Prop) : Prop := (((v_h.1 0) = ((0 : Int32)) → post ((-1 : Int32)) v_w v_z v_pr) ∧ (¬ (v_h.1 0) = ((0 : Int32)) → ((a1 < ((1 : Int32)) → post ((-1 : Int32)) v_w v_z v_pr) ∧ (¬ a1 < ((1 : Int32)) → ((a1 ≤ ((100 : Int32)) → (PX6_copy v_z v_s (fun v_z4 => (PX8_bit (v_z4.1 2) (fun r6 => (∃ n8 : Nat, PX8_wanders_L53 v_t v_c v_h v_s gn_pr post n8 a1 r6 ((0 : Int32)) v_w v_z4 v_pr)))))) ∧ (¬ a1 ≤ ((100 : Int32)) → post ((-1 : Int32)) v_w v_z v_pr))))))
set_option maxRecDepth 100000 in
set_option maxHeartbeats 1000000 in
theorem ctX8_wanders {l : Launch} {D : va_G} {tc : Nat → ClassId} {Z : (Nat → Nat) × (Nat → Nat)}  {ad_t : Nat → Nat} {ad_c : Nat → Nat} {ad_h : Nat → Nat} {ad_s : Nat → Nat} {ad_w : Nat → Nat} {ad_z : Nat → Nat} {ad_pr : Nat → Nat → Nat} {v_t : OV} {v_c : OV} {v_h : OV} {v_s : OV} {v_w : OV} {v_z : OV} {v_pr : (Nat → OV)} {gn_pr : Nat} {a1 : Int32} (e_t_6 : ad_t (6 + 1) = ad_c 0) (e_c_0 : ad_c (0 + 1) = ad_h 0) (e_c_3 : ad_c (3 + 1) = ad_s 0) (e_t_8 : ad_t (8 + 1) = ad_w 0) (e_t_9 : ad_t (9 + 1) = ad_z 0) (p_t_4 : ∀ i, i < gn_pr → kn_q ad_t 4 i = some (ad_pr i 0))   {post : Int32 → OV → OV → (Nat → OV) → Prop} (h : PX8_wanders  v_t v_c v_h v_s v_w v_z v_pr gn_pr a1 post) : CTi l D tc Z yX8_wanders (Cond.code yX8_wanders cX8_wanders 4 (some .int) :: kn_all) rmX8_wanders 0 0 [.ref (ad_t 0), .int a1] (List.flatten [[(kTin, ad_t, v_t)], [(kScene, ad_c, v_c)], [(kHill, ad_h, v_h)], [(kState, ad_s, v_s)], [(kWalk, ad_w, v_w)], [(kState, ad_z, v_z)], kn_pool kRule gn_pr ad_pr v_pr]) (fun (u : OV × OV × (Nat → OV)) => (List.flatten [[(kTin, ad_t, v_t)], [(kScene, ad_c, v_c)], [(kHill, ad_h, v_h)], [(kState, ad_s, v_s)], [(kWalk, ad_w, u.1)], [(kState, ad_z, u.2.1)], kn_pool kRule gn_pr ad_pr u.2.2])) (fun (r : Int32) (u : OV × OV × (Nat → OV)) => post r u.1 u.2.1 u.2.2) := by
  refine kn_ofi (cc := cX8_wanders) (nL := 4) (ret := (some .int)) (lv := [(0, .ref (ad_t 0)), (1, .int a1)]) (by decide) (Nat.le_of_ble_eq_true rfl) rfl (fun p e s m below meth c ls X I hl _ => ?_)
  obtain ⟨S0, hr, hlocks, hK, hZ, hA⟩ := id X
  obtain ⟨hx, hb, hml, hown, hts⟩ := id S0
  unfold PX8_wanders at h
  refine lv_aload_n hx hb (kn_dec tX8_wanders 0 rfl) rfl (lv_at hl 0 rfl) ?_
  refine kw_getl hx hb hts inX8 hown hK I 0 rfl rfl 6 (by decide) rfl (hts _ q2_105) (kn_dec tX8_wanders 1 rfl) e_t_6 ?_
  refine kw_getl hx hb hts inX5 hown hK I 1 rfl rfl 0 (by decide) rfl (hts _ q2_28) (kn_dec tX8_wanders 2 rfl) e_c_0 ?_
  refine kw_geti hx hb hts inX0 hown hK I 2 rfl rfl 0 (by decide) rfl (hts _ q1_119) (kn_dec tX8_wanders 3 rfl) ?_
  refine lv_if_eq (tgt := 24) hx hb (kn_dec tX8_wanders 4 rfl) (by decide) (fun c1 => ?_) (fun c1 => ?_)
  · have h := h.1 c1
    refine lv_iconst (v := (-1)) hx hb (kn_dec tX8_wanders 11 rfl) (by decide) ?_
    exact kw_iret hx hb hr hlocks I (v_w, v_z, v_pr) rfl h (kn_dec tX8_wanders 12 rfl)
  · have h := h.2 c1
    refine lv_iload_n hx hb (kn_dec tX8_wanders 5 rfl) rfl (lv_at hl 1 rfl) ?_
    refine lv_iconst (v := (1)) hx hb (kn_dec tX8_wanders 6 rfl) (by decide) ?_
    refine lv_icmp_lt (tgt := 24) hx hb (kn_dec tX8_wanders 7 rfl) (by decide) (fun c2 => ?_) (fun c2 => ?_)
    · have h := h.1 c2
      refine lv_iconst (v := (-1)) hx hb (kn_dec tX8_wanders 11 rfl) (by decide) ?_
      exact kw_iret hx hb hr hlocks I (v_w, v_z, v_pr) rfl h (kn_dec tX8_wanders 12 rfl)
    · have h := h.2 c2
      refine lv_iload_n hx hb (kn_dec tX8_wanders 8 rfl) rfl (lv_at hl 1 rfl) ?_
      refine lv_bipush (v := (100)) hx hb (kn_dec tX8_wanders 9 rfl) (by decide) ?_
      refine lv_icmp_le (tgt := 26) hx hb (kn_dec tX8_wanders 10 rfl) (by decide) (fun c3 => ?_) (fun c3 => ?_)
      · have h := h.1 c3
        refine lv_aload_n hx hb (kn_dec tX8_wanders 13 rfl) rfl (lv_at hl 0 rfl) ?_
        refine kw_getl hx hb hts inX8 hown hK I 0 rfl rfl 9 (by decide) rfl (hts _ q2_108) (kn_dec tX8_wanders 14 rfl) e_t_9 ?_
        refine lv_aload_n hx hb (kn_dec tX8_wanders 15 rfl) rfl (lv_at hl 0 rfl) ?_
        refine kw_getl hx hb hts inX8 hown hK I 0 rfl rfl 6 (by decide) rfl (hts _ q2_105) (kn_dec tX8_wanders 16 rfl) e_t_6 ?_
        refine kw_getl hx hb hts inX5 hown hK I 1 rfl rfl 3 (by decide) rfl (hts _ q2_34) (kn_dec tX8_wanders 17 rfl) e_c_3 ?_
        have I : kn_I D tc (kn_A _ s.heap.size) s.heap ([(kState, ad_z, _), (kState, ad_s, _)] ++ (List.flatten [[(kTin, ad_t, _)], [(kScene, ad_c, _)], [(kHill, ad_h, _)], [(kWalk, ad_w, _)], kn_pool kRule gn_pr ad_pr _])) _ _ := I.perm (kn_segA (segs := [[(kTin, ad_t, _)], [(kScene, ad_c, _)], [(kHill, ad_h, _)], [(kState, ad_s, _)], [(kWalk, ad_w, _)], [(kState, ad_z, _)], kn_pool kRule gn_pr ad_pr _]) (sC := [[(kState, ad_z, _)], [(kState, ad_s, _)]]) (sR := [[(kTin, ad_t, _)], [(kScene, ad_c, _)], [(kHill, ad_h, _)], [(kWalk, ad_w, _)], kn_pool kRule gn_pr ad_pr _]) [5, 3, 0, 1, 2, 4, 6] rfl rfl)
        refine kw_callv (wc := [(kState, ad_z, _), (kState, ad_s, _)]) (wr := (List.flatten [[(kTin, ad_t, _)], [(kScene, ad_c, _)], [(kHill, ad_h, _)], [(kWalk, ad_w, _)], kn_pool kRule gn_pr ad_pr _])) I hA (kn_pl1 _ _) (kn_pl2 _ _) (kn_pl1_ok _ _) (kn_pl2_ok _ _) (kn_pl2_nd _ _) (kn_pl_dis _ _) (kn_runV (As := [.ref (ad_s 0)]) S0 hK hZ hA I ((ctX6_copy h).met _) (kn_cwV 1 hts q4_44 q3_171 q3_172 q1_8 q3_173 rfl rfl (by decide +kernel) ⟨(Nat.le_of_ble_eq_true rfl), (Nat.le_of_ble_eq_true rfl)⟩) (kn_pl1 _ _) (kn_pl1_ok _ _) (kn_pl1_nd _ _) 0 rfl rfl rfl rfl hl.1 rfl (Nat.le_of_ble_eq_true rfl) (kn_dec tX8_wanders 18 rfl) ⟨(Nat.le_of_ble_eq_true rfl), (Nat.le_of_ble_eq_true rfl)⟩) (fun u5 H locs h I => ?_)
        have I : kn_I D tc (kn_A _ s.heap.size) s.heap (List.flatten [[(kTin, ad_t, _)], [(kScene, ad_c, _)], [(kHill, ad_h, _)], [(kState, ad_s, _)], [(kWalk, ad_w, _)], [(kState, ad_z, _)], kn_pool kRule gn_pr ad_pr _]) _ _ := I.perm (kn_segB (sC := [[(kTin, ad_t, _)], [(kScene, ad_c, _)], [(kHill, ad_h, _)], [(kWalk, ad_w, _)], kn_pool kRule gn_pr ad_pr _]) (sR := [[(kState, ad_z, _)], [(kState, ad_s, _)]]) (segs := [[(kTin, ad_t, _)], [(kScene, ad_c, _)], [(kHill, ad_h, _)], [(kState, ad_s, _)], [(kWalk, ad_w, _)], [(kState, ad_z, _)], kn_pool kRule gn_pr ad_pr _]) [0, 1, 2, 6, 3, 5, 4] rfl rfl)
        refine lv_aload_n hx hb (kn_dec tX8_wanders 19 rfl) rfl (lv_at hl 0 rfl) ?_
        refine kw_getl hx hb hts inX8 hown hK I 0 rfl rfl 9 (by decide) rfl (hts _ q2_108) (kn_dec tX8_wanders 20 rfl) e_t_9 ?_
        refine kw_geti hx hb hts inX6 hown hK I 5 rfl rfl 2 (by decide) rfl (hts _ q1_227) (kn_dec tX8_wanders 21 rfl) ?_
        have I : kn_I D tc (kn_A _ s.heap.size) s.heap ([] ++ (List.flatten [[(kTin, ad_t, _)], [(kScene, ad_c, _)], [(kHill, ad_h, _)], [(kState, ad_s, _)], [(kWalk, ad_w, _)], [(kState, ad_z, _)], kn_pool kRule gn_pr ad_pr _])) _ _ := I.perm (kn_segA (segs := [[(kTin, ad_t, _)], [(kScene, ad_c, _)], [(kHill, ad_h, _)], [(kState, ad_s, _)], [(kWalk, ad_w, _)], [(kState, ad_z, _)], kn_pool kRule gn_pr ad_pr _]) (sC := []) (sR := [[(kTin, ad_t, _)], [(kScene, ad_c, _)], [(kHill, ad_h, _)], [(kState, ad_s, _)], [(kWalk, ad_w, _)], [(kState, ad_z, _)], kn_pool kRule gn_pr ad_pr _]) [0, 1, 2, 3, 4, 5, 6] rfl rfl)
        refine kw_calli (wc := []) (wr := (List.flatten [[(kTin, ad_t, _)], [(kScene, ad_c, _)], [(kHill, ad_h, _)], [(kState, ad_s, _)], [(kWalk, ad_w, _)], [(kState, ad_z, _)], kn_pool kRule gn_pr ad_pr _])) I hA (kn_pl1 _ _) (kn_pl2 _ _) (kn_pl1_ok _ _) (kn_pl2_ok _ _) (kn_pl2_nd _ _) (kn_pl_dis _ _) (kn_runS (As := [.int _]) S0 hK hZ hA I ((ctX8_bit h).met _) (kn_cwS 1 hts q4_82 q4_83 q1_1 q4_84 rfl rfl (by decide +kernel) ⟨(Nat.le_of_ble_eq_true rfl), (Nat.le_of_ble_eq_true rfl)⟩) (kn_pl1 _ _) (kn_pl1_ok _ _) (kn_pl1_nd _ _) rfl hl.1 rfl (Nat.le_of_ble_eq_true rfl) (kn_dec tX8_wanders 22 rfl) ⟨(Nat.le_of_ble_eq_true rfl), (Nat.le_of_ble_eq_true rfl)⟩) (fun r6 u7 H locs h I => ?_)
        have I : kn_I D tc (kn_A _ s.heap.size) s.heap (List.flatten [[(kTin, ad_t, _)], [(kScene, ad_c, _)], [(kHill, ad_h, _)], [(kState, ad_s, _)], [(kWalk, ad_w, _)], [(kState, ad_z, _)], kn_pool kRule gn_pr ad_pr _]) _ _ := I.perm (kn_segB (sC := [[(kTin, ad_t, _)], [(kScene, ad_c, _)], [(kHill, ad_h, _)], [(kState, ad_s, _)], [(kWalk, ad_w, _)], [(kState, ad_z, _)], kn_pool kRule gn_pr ad_pr _]) (sR := []) (segs := [[(kTin, ad_t, _)], [(kScene, ad_c, _)], [(kHill, ad_h, _)], [(kState, ad_s, _)], [(kWalk, ad_w, _)], [(kState, ad_z, _)], kn_pool kRule gn_pr ad_pr _]) [0, 1, 2, 3, 4, 5, 6] rfl rfl)
        refine lv_istore_n (lv' := [(2, .int _), (0, .ref (ad_t 0)), (1, .int _)]) hx hb (kn_dec tX8_wanders 23 rfl) rfl hl (by decide) rfl (fun ls hl => ?_)
        refine lv_iconst (v := (0)) hx hb (kn_dec tX8_wanders 24 rfl) (by decide) ?_
        refine lv_istore_n (lv' := [(3, .int _), (2, .int _), (0, .ref (ad_t 0)), (1, .int _)]) hx hb (kn_dec tX8_wanders 25 rfl) rfl hl (by decide) rfl (fun ls hl => ?_)
        obtain ⟨n8, h⟩ := h
        exact wX8_wanders_L53 X e_t_6 e_c_0 e_c_3 e_t_8 e_t_9 p_t_4 n8 _ _ _ _ _ _ _ _ _  I (lv_sub hl [2, 3, 1, 0] rfl) h
      · have h := h.2 c3
        refine lv_iconst (v := (-1)) hx hb (kn_dec tX8_wanders 11 rfl) (by decide) ?_
        exact kw_iret hx hb hr hlocks I (v_w, v_z, v_pr) rfl h (kn_dec tX8_wanders 12 rfl)

/-! X8_shows -/
abbrev rmX8_shows : Room := { frames := 7, cells := 0, slots := 0, locals := 191 }
def PX8_shows_L26 (v_t : OV) (v_c : OV) (v_h : OV) (v_s : OV) (gn_pr : Nat)  (post : Int32 → OV → OV → (Nat → OV) → Prop) : Nat → Int32 → Int32 → OV → OV → (Nat → OV) → Prop
  | 0, _, _, _, _, _ => False
  | n + 1, y1, y2, v_w, v_z, v_pr => ((((200 : Int32)) ≤ y2 → post ((-2 : Int32)) v_w v_z v_pr) ∧ (¬ ((200 : Int32)) ≤ y2 → (PX6_firstWorn v_z v_h (fun r2 => ((r2 = ((-1 : Int32)) → (PX8_goOn v_t v_c v_h v_w v_z v_pr gn_pr ((1 : Int32)) (fun r8 v_w5 v_z6 v_pr7 => (∀ x10 : Int32, x10 = y2 + (1 : Int32) → PX8_shows_L26 v_t v_c v_h v_s gn_pr post n y1 x10 v_w5 v_z6 v_pr7)))) ∧ (¬ r2 = ((-1 : Int32)) → ((¬ y1 = ((0 : Int32)) → post (v_z.1 0) v_w v_z v_pr) ∧ (y1 = ((0 : Int32)) → post r2 v_w v_z v_pr))))))))
set_option maxRecDepth 100000 in
set_option maxHeartbeats 1000000 in
theorem wX8_shows_L26 {v_t : OV} {v_c : OV} {v_h : OV} {v_s : OV} {gn_pr : Nat}  {post : Int32 → OV → OV → (Nat → OV) → Prop} {ad_t : Nat → Nat} {ad_c : Nat → Nat} {ad_h : Nat → Nat} {ad_s : Nat → Nat} {ad_w : Nat → Nat} {ad_z : Nat → Nat} {ad_pr : Nat → Nat → Nat} (X : kn_X p s m args meth c cX8_shows 4 (some .int) RX8 kn_all D tc Z (kn_A w0 s.heap.size)) (e_t_6 : ad_t (6 + 1) = ad_c 0) (e_c_0 : ad_c (0 + 1) = ad_h 0) (e_c_3 : ad_c (3 + 1) = ad_s 0) (e_t_8 : ad_t (8 + 1) = ad_w 0) (e_t_9 : ad_t (9 + 1) = ad_z 0) (p_t_4 : ∀ i, i < gn_pr → kn_q ad_t 4 i = some (ad_pr i 0))   : ∀ n : Nat, ∀ (H : Heap) (locs : List Loc) (ls : Array Slot) (y1 : Int32) (y2 : Int32) (v_w : OV) (v_z : OV) (v_pr : (Nat → OV)), kn_I D tc (kn_A w0 s.heap.size) s.heap (List.flatten [[(kTin, ad_t, v_t)], [(kScene, ad_c, v_c)], [(kHill, ad_h, v_h)], [(kState, ad_s, v_s)], [(kWalk, ad_w, v_w)], [(kState, ad_z, v_z)], kn_pool kRule gn_pr ad_pr v_pr]) H locs → lv_has ls 4 [(0, .ref (ad_t 0)), (1, .int y1), (2, .int y2)] → PX8_shows_L26 v_t v_c v_h v_s gn_pr post n y1 y2 v_w v_z v_pr → W p l e rmX8_shows s m args below meth c H locs 0 0 (kn_Qi D tc w0 (fun (u : OV × OV × (Nat → OV)) => (List.flatten [[(kTin, ad_t, v_t)], [(kScene, ad_c, v_c)], [(kHill, ad_h, v_h)], [(kState, ad_s, v_s)], [(kWalk, ad_w, u.1)], [(kState, ad_z, u.2.1)], kn_pool kRule gn_pr ad_pr u.2.2])) (fun (r : Int32) (u : OV × OV × (Nat → OV)) => post r u.1 u.2.1 u.2.2) below args s 0 0) (F0 m 26 ls []) := by
  obtain ⟨S0, hr, hlocks, hK, hZ, hA⟩ := id X
  obtain ⟨hx, hb, hml, hown, hts⟩ := id S0
  intro n
  induction n with
  | zero =>
    intro H locs ls y1 y2 v_w v_z v_pr I hl h
    unfold PX8_shows_L26 at h
    exact h.elim
  | succ n ih =>
    intro H locs ls y1 y2 v_w v_z v_pr I hl h
    unfold PX8_shows_L26 at h
    refine lv_iload_n hx hb (kn_dec tX8_shows 14 rfl) rfl (lv_at hl 2 rfl) ?_
    refine lv_sipush (v := (200)) hx hb (kn_dec tX8_shows 15 rfl) (by decide) ?_
    refine lv_icmp_ge (tgt := 81) hx hb (kn_dec tX8_shows 16 rfl) (by decide) (fun c1 => ?_) (fun c1 => ?_)
    · have h := h.1 c1
      refine lv_bipush (v := (-2)) hx hb (kn_dec tX8_shows 41 rfl) (by decide) ?_
      exact kw_iret hx hb hr hlocks I (v_w, v_z, v_pr) rfl h (kn_dec tX8_shows 42 rfl)
    · have h := h.2 c1
      refine lv_aload_n hx hb (kn_dec tX8_shows 17 rfl) rfl (lv_at hl 0 rfl) ?_
      refine kw_getl hx hb hts inX8 hown hK I 0 rfl rfl 9 (by decide) rfl (hts _ q2_108) (kn_dec tX8_shows 18 rfl) e_t_9 ?_
      refine lv_aload_n hx hb (kn_dec tX8_shows 19 rfl) rfl (lv_at hl 0 rfl) ?_
      refine kw_getl hx hb hts inX8 hown hK I 0 rfl rfl 6 (by decide) rfl (hts _ q2_105) (kn_dec tX8_shows 20 rfl) e_t_6 ?_
      refine kw_getl hx hb hts inX5 hown hK I 1 rfl rfl 0 (by decide) rfl (hts _ q2_28) (kn_dec tX8_shows 21 rfl) e_c_0 ?_
      have I : kn_I D tc (kn_A w0 s.heap.size) s.heap ([(kState, ad_z, _), (kHill, ad_h, _)] ++ (List.flatten [[(kTin, ad_t, _)], [(kScene, ad_c, _)], [(kState, ad_s, _)], [(kWalk, ad_w, _)], kn_pool kRule gn_pr ad_pr _])) _ _ := I.perm (kn_segA (segs := [[(kTin, ad_t, _)], [(kScene, ad_c, _)], [(kHill, ad_h, _)], [(kState, ad_s, _)], [(kWalk, ad_w, _)], [(kState, ad_z, _)], kn_pool kRule gn_pr ad_pr _]) (sC := [[(kState, ad_z, _)], [(kHill, ad_h, _)]]) (sR := [[(kTin, ad_t, _)], [(kScene, ad_c, _)], [(kState, ad_s, _)], [(kWalk, ad_w, _)], kn_pool kRule gn_pr ad_pr _]) [5, 2, 0, 1, 3, 4, 6] rfl rfl)
      refine kw_calli (wc := [(kState, ad_z, _), (kHill, ad_h, _)]) (wr := (List.flatten [[(kTin, ad_t, _)], [(kScene, ad_c, _)], [(kState, ad_s, _)], [(kWalk, ad_w, _)], kn_pool kRule gn_pr ad_pr _])) I hA (kn_pl1 _ _) (kn_pl2 _ _) (kn_pl1_ok _ _) (kn_pl2_ok _ _) (kn_pl2_nd _ _) (kn_pl_dis _ _) (kn_runV (As := [.ref (ad_h 0)]) S0 hK hZ hA I ((ctX6_firstWorn h).met _) (kn_cwV 1 hts q4_90 q4_91 q4_92 q1_8 q4_93 rfl rfl (by decide +kernel) ⟨(Nat.le_of_ble_eq_true rfl), (Nat.le_of_ble_eq_true rfl)⟩) (kn_pl1 _ _) (kn_pl1_ok _ _) (kn_pl1_nd _ _) 0 rfl rfl rfl rfl hl.1 rfl (Nat.le_of_ble_eq_true rfl) (kn_dec tX8_shows 22 rfl) ⟨(Nat.le_of_ble_eq_true rfl), (Nat.le_of_ble_eq_true rfl)⟩) (fun r2 u3 H locs h I => ?_)
      have I : kn_I D tc (kn_A w0 s.heap.size) s.heap (List.flatten [[(kTin, ad_t, _)], [(kScene, ad_c, _)], [(kHill, ad_h, _)], [(kState, ad_s, _)], [(kWalk, ad_w, _)], [(kState, ad_z, _)], kn_pool kRule gn_pr ad_pr _]) _ _ := I.perm (kn_segB (sC := [[(kTin, ad_t, _)], [(kScene, ad_c, _)], [(kState, ad_s, _)], [(kWalk, ad_w, _)], kn_pool kRule gn_pr ad_pr _]) (sR := [[(kState, ad_z, _)], [(kHill, ad_h, _)]]) (segs := [[(kTin, ad_t, _)], [(kScene, ad_c, _)], [(kHill, ad_h, _)], [(kState, ad_s, _)], [(kWalk, ad_w, _)], [(kState, ad_z, _)], kn_pool kRule gn_pr ad_pr _]) [0, 1, 6, 2, 3, 5, 4] rfl rfl)
      refine lv_istore_n (lv' := [(3, .int _), (0, .ref (ad_t 0)), (1, .int _), (2, .int _)]) hx hb (kn_dec tX8_shows 23 rfl) rfl hl (by decide) rfl (fun ls hl => ?_)
      refine lv_iload_n hx hb (kn_dec tX8_shows 24 rfl) rfl (lv_at hl 0 rfl) ?_
      refine lv_iconst (v := (-1)) hx hb (kn_dec tX8_shows 25 rfl) (by decide) ?_
      refine lv_icmp_eq (tgt := 69) hx hb (kn_dec tX8_shows 26 rfl) (by decide) (fun c4 => ?_) (fun c4 => ?_)
      · have h := h.1 c4
        refine lv_aload_n hx hb (kn_dec tX8_shows 35 rfl) rfl (lv_at hl 1 rfl) ?_
        refine lv_iconst (v := (1)) hx hb (kn_dec tX8_shows 36 rfl) (by decide) ?_
        have I : kn_I D tc (kn_A w0 s.heap.size) s.heap ((List.flatten [[(kTin, ad_t, _)], [(kScene, ad_c, _)], [(kHill, ad_h, _)], [(kWalk, ad_w, _)], [(kState, ad_z, _)], kn_pool kRule gn_pr ad_pr _]) ++ (List.flatten [[(kState, ad_s, _)]])) _ _ := I.perm (kn_segA (segs := [[(kTin, ad_t, _)], [(kScene, ad_c, _)], [(kHill, ad_h, _)], [(kState, ad_s, _)], [(kWalk, ad_w, _)], [(kState, ad_z, _)], kn_pool kRule gn_pr ad_pr _]) (sC := [[(kTin, ad_t, _)], [(kScene, ad_c, _)], [(kHill, ad_h, _)], [(kWalk, ad_w, _)], [(kState, ad_z, _)], kn_pool kRule gn_pr ad_pr _]) (sR := [[(kState, ad_s, _)]]) [0, 1, 2, 4, 5, 6, 3] rfl rfl)
        refine kw_calli (wc := (List.flatten [[(kTin, ad_t, _)], [(kScene, ad_c, _)], [(kHill, ad_h, _)], [(kWalk, ad_w, _)], [(kState, ad_z, _)], kn_pool kRule gn_pr ad_pr _])) (wr := (List.flatten [[(kState, ad_s, _)]])) I hA (kn_pl1 _ _) (kn_pl2 _ _) (kn_pl1_ok _ _) (kn_pl2_ok _ _) (kn_pl2_nd _ _) (kn_pl_dis _ _) (kn_runV (As := [.int _]) S0 hK hZ hA I ((ctX8_goOn e_t_6 e_c_0 e_t_8 e_t_9 p_t_4 h).met _) (kn_cwV 1 hts q4_45 q4_47 q0_21 q1_1 q4_48 rfl rfl (by decide +kernel) ⟨(Nat.le_of_ble_eq_true rfl), (Nat.le_of_ble_eq_true rfl)⟩) (kn_pl1 _ _) (kn_pl1_ok _ _) (kn_pl1_nd _ _) 0 rfl rfl rfl rfl hl.1 rfl (Nat.le_of_ble_eq_true rfl) (kn_dec tX8_shows 37 rfl) ⟨(Nat.le_of_ble_eq_true rfl), (Nat.le_of_ble_eq_true rfl)⟩) (fun r8 u9 H locs h I => ?_)
        have I : kn_I D tc (kn_A w0 s.heap.size) s.heap (List.flatten [[(kTin, ad_t, _)], [(kScene, ad_c, _)], [(kHill, ad_h, _)], [(kState, ad_s, _)], [(kWalk, ad_w, _)], [(kState, ad_z, _)], kn_pool kRule gn_pr ad_pr _]) _ _ := I.perm (kn_segB (sC := [[(kState, ad_s, _)]]) (sR := [[(kTin, ad_t, _)], [(kScene, ad_c, _)], [(kHill, ad_h, _)], [(kWalk, ad_w, _)], [(kState, ad_z, _)], kn_pool kRule gn_pr ad_pr _]) (segs := [[(kTin, ad_t, _)], [(kScene, ad_c, _)], [(kHill, ad_h, _)], [(kState, ad_s, _)], [(kWalk, ad_w, _)], [(kState, ad_z, _)], kn_pool kRule gn_pr ad_pr _]) [1, 2, 3, 0, 4, 5, 6] rfl rfl)
        refine lv_pop hx hb (kn_dec tX8_shows 38 rfl) rfl ?_
        refine kw_iinc (lvf := fun y => [(2, .int y), (3, .int _), (0, .ref (ad_t 0)), (1, .int _)]) (nv := (1)) hx hb (kn_dec tX8_shows 39 rfl) hl (k := 3) rfl (by decide) (by decide) (fun _ => rfl) (fun x10 ex10 ls hl => ?_)
        have h := h x10 ex10
        refine lv_goto (tgt := 26) hx hb (kn_dec tX8_shows 40 rfl) (by decide) ?_
        exact ih _ _ _ _ _ _ _ _  I (lv_sub hl [2, 3, 0] rfl) h
      · have h := h.2 c4
        refine lv_iload_n hx hb (kn_dec tX8_shows 27 rfl) rfl (lv_at hl 2 rfl) ?_
        refine lv_if_ne (tgt := 61) hx hb (kn_dec tX8_shows 28 rfl) (by decide) (fun c11 => ?_) (fun c11 => ?_)
        · have h := h.1 c11
          refine lv_aload_n hx hb (kn_dec tX8_shows 31 rfl) rfl (lv_at hl 1 rfl) ?_
          refine kw_getl hx hb hts inX8 hown hK I 0 rfl rfl 9 (by decide) rfl (hts _ q2_108) (kn_dec tX8_shows 32 rfl) e_t_9 ?_
          refine kw_geti hx hb hts inX6 hown hK I 5 rfl rfl 0 (by decide) rfl (hts _ q1_221) (kn_dec tX8_shows 33 rfl) ?_
          exact kw_iret hx hb hr hlocks I (v_w, v_z, v_pr) rfl h (kn_dec tX8_shows 34 rfl)
        · have h := h.2 c11
          refine lv_iload_n hx hb (kn_dec tX8_shows 29 rfl) rfl (lv_at hl 0 rfl) ?_
          refine lv_goto (tgt := 68) hx hb (kn_dec tX8_shows 30 rfl) (by decide) ?_
          exact kw_iret hx hb hr hlocks I (v_w, v_z, v_pr) rfl h (kn_dec tX8_shows 34 rfl)
def PX8_shows  (v_t : OV) (v_c : OV) (v_h : OV) (v_s : OV) (v_w : OV) (v_z : OV) (v_pr : (Nat → OV)) (gn_pr : Nat) (a1 : Int32) (post : Int32 → OV → OV → (Nat → OV) → Prop) : Prop := (PX8_isTold v_t v_c v_h a1 (fun r1 => ((¬ r1 = ((0 : Int32)) → (PX6_copy v_z v_s (fun v_z4 => (∃ n6 : Nat, PX8_shows_L26 v_t v_c v_h v_s gn_pr post n6 a1 ((0 : Int32)) v_w v_z4 v_pr)))) ∧ (r1 = ((0 : Int32)) → post ((-1 : Int32)) v_w v_z v_pr))))
set_option maxRecDepth 100000 in
set_option maxHeartbeats 1000000 in
theorem ctX8_shows {l : Launch} {D : va_G} {tc : Nat → ClassId} {Z : (Nat → Nat) × (Nat → Nat)}  {ad_t : Nat → Nat} {ad_c : Nat → Nat} {ad_h : Nat → Nat} {ad_s : Nat → Nat} {ad_w : Nat → Nat} {ad_z : Nat → Nat} {ad_pr : Nat → Nat → Nat} {v_t : OV} {v_c : OV} {v_h : OV} {v_s : OV} {v_w : OV} {v_z : OV} {v_pr : (Nat → OV)} {gn_pr : Nat} {a1 : Int32} (e_t_6 : ad_t (6 + 1) = ad_c 0) (e_c_0 : ad_c (0 + 1) = ad_h 0) (e_c_3 : ad_c (3 + 1) = ad_s 0) (e_t_8 : ad_t (8 + 1) = ad_w 0) (e_t_9 : ad_t (9 + 1) = ad_z 0) (p_t_4 : ∀ i, i < gn_pr → kn_q ad_t 4 i = some (ad_pr i 0))   {post : Int32 → OV → OV → (Nat → OV) → Prop} (h : PX8_shows  v_t v_c v_h v_s v_w v_z v_pr gn_pr a1 post) : CTi l D tc Z yX8_shows (Cond.code yX8_shows cX8_shows 4 (some .int) :: kn_all) rmX8_shows 0 0 [.ref (ad_t 0), .int a1] (List.flatten [[(kTin, ad_t, v_t)], [(kScene, ad_c, v_c)], [(kHill, ad_h, v_h)], [(kState, ad_s, v_s)], [(kWalk, ad_w, v_w)], [(kState, ad_z, v_z)], kn_pool kRule gn_pr ad_pr v_pr]) (fun (u : OV × OV × (Nat → OV)) => (List.flatten [[(kTin, ad_t, v_t)], [(kScene, ad_c, v_c)], [(kHill, ad_h, v_h)], [(kState, ad_s, v_s)], [(kWalk, ad_w, u.1)], [(kState, ad_z, u.2.1)], kn_pool kRule gn_pr ad_pr u.2.2])) (fun (r : Int32) (u : OV × OV × (Nat → OV)) => post r u.1 u.2.1 u.2.2) := by
  refine kn_ofi (cc := cX8_shows) (nL := 4) (ret := (some .int)) (lv := [(0, .ref (ad_t 0)), (1, .int a1)]) (by decide) (Nat.le_of_ble_eq_true rfl) rfl (fun p e s m below meth c ls X I hl _ => ?_)
  obtain ⟨S0, hr, hlocks, hK, hZ, hA⟩ := id X
  obtain ⟨hx, hb, hml, hown, hts⟩ := id S0
  unfold PX8_shows at h
  refine lv_aload_n hx hb (kn_dec tX8_shows 0 rfl) rfl (lv_at hl 0 rfl) ?_
  refine lv_iload_n hx hb (kn_dec tX8_shows 1 rfl) rfl (lv_at hl 1 rfl) ?_
  have I : kn_I D tc (kn_A _ s.heap.size) s.heap ([(kTin, ad_t, _), (kScene, ad_c, _), (kHill, ad_h, _)] ++ (List.flatten [[(kState, ad_s, _)], [(kWalk, ad_w, _)], [(kState, ad_z, _)], kn_pool kRule gn_pr ad_pr _])) _ _ := I.perm (kn_segA (segs := [[(kTin, ad_t, _)], [(kScene, ad_c, _)], [(kHill, ad_h, _)], [(kState, ad_s, _)], [(kWalk, ad_w, _)], [(kState, ad_z, _)], kn_pool kRule gn_pr ad_pr _]) (sC := [[(kTin, ad_t, _)], [(kScene, ad_c, _)], [(kHill, ad_h, _)]]) (sR := [[(kState, ad_s, _)], [(kWalk, ad_w, _)], [(kState, ad_z, _)], kn_pool kRule gn_pr ad_pr _]) [0, 1, 2, 3, 4, 5, 6] rfl rfl)
  refine kw_calli (wc := [(kTin, ad_t, _), (kScene, ad_c, _), (kHill, ad_h, _)]) (wr := (List.flatten [[(kState, ad_s, _)], [(kWalk, ad_w, _)], [(kState, ad_z, _)], kn_pool kRule gn_pr ad_pr _])) I hA (kn_pl1 _ _) (kn_pl2 _ _) (kn_pl1_ok _ _) (kn_pl2_ok _ _) (kn_pl2_nd _ _) (kn_pl_dis _ _) (kn_runV (As := [.int _]) S0 hK hZ hA I ((ctX8_isTold e_t_6 e_c_0 h).met _) (kn_cwV 1 hts q4_58 q4_60 q0_22 q1_1 q4_61 rfl rfl (by decide +kernel) ⟨(Nat.le_of_ble_eq_true rfl), (Nat.le_of_ble_eq_true rfl)⟩) (kn_pl1 _ _) (kn_pl1_ok _ _) (kn_pl1_nd _ _) 0 rfl rfl rfl rfl hl.1 rfl (Nat.le_of_ble_eq_true rfl) (kn_dec tX8_shows 2 rfl) ⟨(Nat.le_of_ble_eq_true rfl), (Nat.le_of_ble_eq_true rfl)⟩) (fun r1 u2 H locs h I => ?_)
  obtain ⟨hz_r1, h⟩ := h
  have I : kn_I D tc (kn_A _ s.heap.size) s.heap (List.flatten [[(kTin, ad_t, _)], [(kScene, ad_c, _)], [(kHill, ad_h, _)], [(kState, ad_s, _)], [(kWalk, ad_w, _)], [(kState, ad_z, _)], kn_pool kRule gn_pr ad_pr _]) _ _ := I.perm (kn_segB (sC := [[(kState, ad_s, _)], [(kWalk, ad_w, _)], [(kState, ad_z, _)], kn_pool kRule gn_pr ad_pr _]) (sR := [[(kTin, ad_t, _)], [(kScene, ad_c, _)], [(kHill, ad_h, _)]]) (segs := [[(kTin, ad_t, _)], [(kScene, ad_c, _)], [(kHill, ad_h, _)], [(kState, ad_s, _)], [(kWalk, ad_w, _)], [(kState, ad_z, _)], kn_pool kRule gn_pr ad_pr _]) [4, 5, 6, 0, 1, 2, 3] rfl rfl)
  refine lv_if_ne (tgt := 10) hx hb (kn_dec tX8_shows 3 rfl) (by decide) (fun c3 => ?_) (fun c3 => ?_)
  · have h := h.1 c3
    refine lv_aload_n hx hb (kn_dec tX8_shows 6 rfl) rfl (lv_at hl 0 rfl) ?_
    refine kw_getl hx hb hts inX8 hown hK I 0 rfl rfl 9 (by decide) rfl (hts _ q2_108) (kn_dec tX8_shows 7 rfl) e_t_9 ?_
    refine lv_aload_n hx hb (kn_dec tX8_shows 8 rfl) rfl (lv_at hl 0 rfl) ?_
    refine kw_getl hx hb hts inX8 hown hK I 0 rfl rfl 6 (by decide) rfl (hts _ q2_105) (kn_dec tX8_shows 9 rfl) e_t_6 ?_
    refine kw_getl hx hb hts inX5 hown hK I 1 rfl rfl 3 (by decide) rfl (hts _ q2_34) (kn_dec tX8_shows 10 rfl) e_c_3 ?_
    have I : kn_I D tc (kn_A _ s.heap.size) s.heap ([(kState, ad_z, _), (kState, ad_s, _)] ++ (List.flatten [[(kTin, ad_t, _)], [(kScene, ad_c, _)], [(kHill, ad_h, _)], [(kWalk, ad_w, _)], kn_pool kRule gn_pr ad_pr _])) _ _ := I.perm (kn_segA (segs := [[(kTin, ad_t, _)], [(kScene, ad_c, _)], [(kHill, ad_h, _)], [(kState, ad_s, _)], [(kWalk, ad_w, _)], [(kState, ad_z, _)], kn_pool kRule gn_pr ad_pr _]) (sC := [[(kState, ad_z, _)], [(kState, ad_s, _)]]) (sR := [[(kTin, ad_t, _)], [(kScene, ad_c, _)], [(kHill, ad_h, _)], [(kWalk, ad_w, _)], kn_pool kRule gn_pr ad_pr _]) [5, 3, 0, 1, 2, 4, 6] rfl rfl)
    refine kw_callv (wc := [(kState, ad_z, _), (kState, ad_s, _)]) (wr := (List.flatten [[(kTin, ad_t, _)], [(kScene, ad_c, _)], [(kHill, ad_h, _)], [(kWalk, ad_w, _)], kn_pool kRule gn_pr ad_pr _])) I hA (kn_pl1 _ _) (kn_pl2 _ _) (kn_pl1_ok _ _) (kn_pl2_ok _ _) (kn_pl2_nd _ _) (kn_pl_dis _ _) (kn_runV (As := [.ref (ad_s 0)]) S0 hK hZ hA I ((ctX6_copy h).met _) (kn_cwV 1 hts q4_44 q3_171 q3_172 q1_8 q3_173 rfl rfl (by decide +kernel) ⟨(Nat.le_of_ble_eq_true rfl), (Nat.le_of_ble_eq_true rfl)⟩) (kn_pl1 _ _) (kn_pl1_ok _ _) (kn_pl1_nd _ _) 0 rfl rfl rfl rfl hl.1 rfl (Nat.le_of_ble_eq_true rfl) (kn_dec tX8_shows 11 rfl) ⟨(Nat.le_of_ble_eq_true rfl), (Nat.le_of_ble_eq_true rfl)⟩) (fun u5 H locs h I => ?_)
    have I : kn_I D tc (kn_A _ s.heap.size) s.heap (List.flatten [[(kTin, ad_t, _)], [(kScene, ad_c, _)], [(kHill, ad_h, _)], [(kState, ad_s, _)], [(kWalk, ad_w, _)], [(kState, ad_z, _)], kn_pool kRule gn_pr ad_pr _]) _ _ := I.perm (kn_segB (sC := [[(kTin, ad_t, _)], [(kScene, ad_c, _)], [(kHill, ad_h, _)], [(kWalk, ad_w, _)], kn_pool kRule gn_pr ad_pr _]) (sR := [[(kState, ad_z, _)], [(kState, ad_s, _)]]) (segs := [[(kTin, ad_t, _)], [(kScene, ad_c, _)], [(kHill, ad_h, _)], [(kState, ad_s, _)], [(kWalk, ad_w, _)], [(kState, ad_z, _)], kn_pool kRule gn_pr ad_pr _]) [0, 1, 2, 6, 3, 5, 4] rfl rfl)
    refine lv_iconst (v := (0)) hx hb (kn_dec tX8_shows 12 rfl) (by decide) ?_
    refine lv_istore_n (lv' := [(2, .int _), (0, .ref (ad_t 0)), (1, .int _)]) hx hb (kn_dec tX8_shows 13 rfl) rfl hl (by decide) rfl (fun ls hl => ?_)
    obtain ⟨n6, h⟩ := h
    exact wX8_shows_L26 X e_t_6 e_c_0 e_c_3 e_t_8 e_t_9 p_t_4 n6 _ _ _ _ _ _ _ _  I (lv_sub hl [1, 2, 0] rfl) h
  · have h := h.2 c3
    refine lv_iconst (v := (-1)) hx hb (kn_dec tX8_shows 4 rfl) (by decide) ?_
    exact kw_iret hx hb hr hlocks I (v_w, v_z, v_pr) rfl h (kn_dec tX8_shows 5 rfl)

/-! X8_years -/
abbrev rmX8_years : Room := { frames := 6, cells := 0, slots := 0, locals := 167 }
def PX8_years_b166 (v_t : OV) (v_c : OV) (v_h : OV) (v_s : OV) (gn_pr : Nat) (K61 : Int32 → Int32 → Int32 → Int32 → Int32 → Int32 → Int32 → Int32 → OV → OV → (Nat → OV) → Prop) (post : Int32 → OV → OV → (Nat → OV) → Prop) (t0 : Int32) (t1 : Int32) (y1 : Int32) (y2 : Int32) (y3 : Int32) (y4 : Int32) (y5 : Int32) (y7 : Int32) (y8 : Int32) (v_w : OV) (v_z : OV) (v_pr : (Nat → OV)) : Prop := (∀ x1 : Int32, x1 = (t0 + t1) → (∀ x2 : Int32, x2 = y8 + (1 : Int32) → K61 y1 y2 y3 y4 y5 x1 y7 x2 v_w v_z v_pr))
set_option maxRecDepth 100000 in
set_option maxHeartbeats 1000000 in
theorem wX8_years_b166 {v_t : OV} {v_c : OV} {v_h : OV} {v_s : OV} {gn_pr : Nat} {K61 : Int32 → Int32 → Int32 → Int32 → Int32 → Int32 → Int32 → Int32 → OV → OV → (Nat → OV) → Prop} {post : Int32 → OV → OV → (Nat → OV) → Prop} {ad_t : Nat → Nat} {ad_c : Nat → Nat} {ad_h : Nat → Nat} {ad_s : Nat → Nat} {ad_w : Nat → Nat} {ad_z : Nat → Nat} {ad_pr : Nat → Nat → Nat} (X : kn_X p s m args meth c cX8_years 10 (some .int) RX8 kn_all D tc Z (kn_A w0 s.heap.size)) (e_t_6 : ad_t (6 + 1) = ad_c 0) (e_c_0 : ad_c (0 + 1) = ad_h 0) (e_c_3 : ad_c (3 + 1) = ad_s 0) (e_t_8 : ad_t (8 + 1) = ad_w 0) (e_t_9 : ad_t (9 + 1) = ad_z 0) (p_t_4 : ∀ i, i < gn_pr → kn_q ad_t 4 i = some (ad_pr i 0))  (hK61 : ∀ (H : Heap) (locs : List Loc) (ls : Array Slot) (y1 : Int32) (y2 : Int32) (y3 : Int32) (y4 : Int32) (y5 : Int32) (y6 : Int32) (y7 : Int32) (y8 : Int32) (v_w : OV) (v_z : OV) (v_pr : (Nat → OV)), kn_I D tc (kn_A w0 s.heap.size) s.heap (List.flatten [[(kTin, ad_t, v_t)], [(kScene, ad_c, v_c)], [(kHill, ad_h, v_h)], [(kState, ad_s, v_s)], [(kWalk, ad_w, v_w)], [(kState, ad_z, v_z)], kn_pool kRule gn_pr ad_pr v_pr]) H locs → lv_has ls 10 [(0, .ref (ad_t 0)), (1, .int y1), (2, .int y2), (3, .int y3), (4, .int y4), (5, .int y5), (6, .int y6), (7, .int y7), (8, .int y8)] → K61 y1 y2 y3 y4 y5 y6 y7 y8 v_w v_z v_pr → W p l e rmX8_years s m args below meth c H locs 0 0 (kn_Qi D tc w0 (fun (u : OV × OV × (Nat → OV)) => (List.flatten [[(kTin, ad_t, v_t)], [(kScene, ad_c, v_c)], [(kHill, ad_h, v_h)], [(kState, ad_s, v_s)], [(kWalk, ad_w, u.1)], [(kState, ad_z, u.2.1)], kn_pool kRule gn_pr ad_pr u.2.2])) (fun (r : Int32) (u : OV × OV × (Nat → OV)) => post r u.1 u.2.1 u.2.2) below args s 0 0) (F0 m 61 ls [])) : ∀ (H : Heap) (locs : List Loc) (ls : Array Slot) (t0 : Int32) (t1 : Int32) (y1 : Int32) (y2 : Int32) (y3 : Int32) (y4 : Int32) (y5 : Int32) (y7 : Int32) (y8 : Int32) (v_w : OV) (v_z : OV) (v_pr : (Nat → OV)), (hz_t1 : t1 = 0 ∨ t1 = 1) → kn_I D tc (kn_A w0 s.heap.size) s.heap (List.flatten [[(kTin, ad_t, v_t)], [(kScene, ad_c, v_c)], [(kHill, ad_h, v_h)], [(kState, ad_s, v_s)], [(kWalk, ad_w, v_w)], [(kState, ad_z, v_z)], kn_pool kRule gn_pr ad_pr v_pr]) H locs → lv_has ls 10 [(0, .ref (ad_t 0)), (1, .int y1), (2, .int y2), (3, .int y3), (4, .int y4), (5, .int y5), (7, .int y7), (8, .int y8)] → PX8_years_b166 v_t v_c v_h v_s gn_pr K61 post t0 t1 y1 y2 y3 y4 y5 y7 y8 v_w v_z v_pr → W p l e rmX8_years s m args below meth c H locs 0 0 (kn_Qi D tc w0 (fun (u : OV × OV × (Nat → OV)) => (List.flatten [[(kTin, ad_t, v_t)], [(kScene, ad_c, v_c)], [(kHill, ad_h, v_h)], [(kState, ad_s, v_s)], [(kWalk, ad_w, u.1)], [(kState, ad_z, u.2.1)], kn_pool kRule gn_pr ad_pr u.2.2])) (fun (r : Int32) (u : OV × OV × (Nat → OV)) => post r u.1 u.2.1 u.2.2) below args s 0 0) (F0 m 166 ls [.int t1, .int t0]) := by
  obtain ⟨S0, hr, hlocks, hK, hZ, hA⟩ := id X
  obtain ⟨hx, hb, hml, hown, hts⟩ := id S0
  intro H locs ls t0 t1 y1 y2 y3 y4 y5 y7 y8 v_w v_z v_pr hz_t1 I hl h
  unfold PX8_years_b166 at h
  refine lv_iadd hx hb (kn_dec tX8_years_t1 24 rfl) ?_
  refine lv_topi (fun x1 ex1 => ?_)
  have h := h x1 ex1
  refine lv_istore (lv' := [(6, .int _), (0, .ref (ad_t 0)), (1, .int _), (2, .int _), (3, .int _), (4, .int _), (5, .int _), (7, .int _), (8, .int _)]) hx hb (kn_dec tX8_years_t1 25 rfl) hl (by decide) rfl (fun ls hl => ?_)
  refine kw_iinc (lvf := fun y => [(8, .int y), (6, .int _), (0, .ref (ad_t 0)), (1, .int _), (2, .int _), (3, .int _), (4, .int _), (5, .int _), (7, .int _)]) (nv := (1)) hx hb (kn_dec tX8_years_t1 26 rfl) hl (k := 8) rfl (by decide) (by decide) (fun _ => rfl) (fun x2 ex2 ls hl => ?_)
  have h := h x2 ex2
  refine lv_goto (tgt := 61) hx hb (kn_dec tX8_years_t1 27 rfl) (by decide) ?_
  exact hK61 _ _ _ _ _ _ _ _ _ _ _ _ _ _  I (lv_sub hl [2, 3, 4, 5, 6, 7, 1, 8, 0] rfl) h
def PX8_years_b136 (v_t : OV) (v_c : OV) (v_h : OV) (v_s : OV) (gn_pr : Nat) (K61 : Int32 → Int32 → Int32 → Int32 → Int32 → Int32 → Int32 → Int32 → OV → OV → (Nat → OV) → Prop) (K84 : Int32 → Int32 → Int32 → Int32 → Int32 → Int32 → Int32 → Int32 → Int32 → OV → OV → (Nat → OV) → Prop) (post : Int32 → OV → OV → (Nat → OV) → Prop) (t0 : Int32) (t3 : Option Nat) (t5 : Int32) (y1 : Int32) (y2 : Int32) (y3 : Int32) (y4 : Int32) (y5 : Int32) (y6 : Int32) (y8 : Int32) (y9 : Int32) (v_w : OV) (v_z : OV) (v_pr : (Nat → OV)) : Prop := ((t3 = none → (PX7_pass_N v_w v_h v_z t5 (fun r4 v_w2 v_z3 => (∀ x6 : Int32, x6 = (t0 + r4) → (∀ x7 : Int32, x7 = y9 + (1 : Int32) → K84 y1 y2 y3 y4 y5 y6 x6 y8 x7 v_w2 v_z3 v_pr))))) ∧ (∀ i1 : Nat, t3 = some i1 → (PX7_pass_R v_w v_h (v_pr i1) v_z t5 (fun r11 v_w8 v_pr9 v_z10 => (∀ x13 : Int32, x13 = (t0 + r11) → (∀ x14 : Int32, x14 = y9 + (1 : Int32) → K84 y1 y2 y3 y4 y5 y6 x13 y8 x14 v_w8 v_z10 (va_up v_pr i1 v_pr9)))))))
set_option maxRecDepth 100000 in
set_option maxHeartbeats 1000000 in
theorem wX8_years_b136 {v_t : OV} {v_c : OV} {v_h : OV} {v_s : OV} {gn_pr : Nat} {K61 : Int32 → Int32 → Int32 → Int32 → Int32 → Int32 → Int32 → Int32 → OV → OV → (Nat → OV) → Prop} {K84 : Int32 → Int32 → Int32 → Int32 → Int32 → Int32 → Int32 → Int32 → Int32 → OV → OV → (Nat → OV) → Prop} {post : Int32 → OV → OV → (Nat → OV) → Prop} {ad_t : Nat → Nat} {ad_c : Nat → Nat} {ad_h : Nat → Nat} {ad_s : Nat → Nat} {ad_w : Nat → Nat} {ad_z : Nat → Nat} {ad_pr : Nat → Nat → Nat} (X : kn_X p s m args meth c cX8_years 10 (some .int) RX8 kn_all D tc Z (kn_A w0 s.heap.size)) (e_t_6 : ad_t (6 + 1) = ad_c 0) (e_c_0 : ad_c (0 + 1) = ad_h 0) (e_c_3 : ad_c (3 + 1) = ad_s 0) (e_t_8 : ad_t (8 + 1) = ad_w 0) (e_t_9 : ad_t (9 + 1) = ad_z 0) (p_t_4 : ∀ i, i < gn_pr → kn_q ad_t 4 i = some (ad_pr i 0))  (hK61 : ∀ (H : Heap) (locs : List Loc) (ls : Array Slot) (y1 : Int32) (y2 : Int32) (y3 : Int32) (y4 : Int32) (y5 : Int32) (y6 : Int32) (y7 : Int32) (y8 : Int32) (v_w : OV) (v_z : OV) (v_pr : (Nat → OV)), kn_I D tc (kn_A w0 s.heap.size) s.heap (List.flatten [[(kTin, ad_t, v_t)], [(kScene, ad_c, v_c)], [(kHill, ad_h, v_h)], [(kState, ad_s, v_s)], [(kWalk, ad_w, v_w)], [(kState, ad_z, v_z)], kn_pool kRule gn_pr ad_pr v_pr]) H locs → lv_has ls 10 [(0, .ref (ad_t 0)), (1, .int y1), (2, .int y2), (3, .int y3), (4, .int y4), (5, .int y5), (6, .int y6), (7, .int y7), (8, .int y8)] → K61 y1 y2 y3 y4 y5 y6 y7 y8 v_w v_z v_pr → W p l e rmX8_years s m args below meth c H locs 0 0 (kn_Qi D tc w0 (fun (u : OV × OV × (Nat → OV)) => (List.flatten [[(kTin, ad_t, v_t)], [(kScene, ad_c, v_c)], [(kHill, ad_h, v_h)], [(kState, ad_s, v_s)], [(kWalk, ad_w, u.1)], [(kState, ad_z, u.2.1)], kn_pool kRule gn_pr ad_pr u.2.2])) (fun (r : Int32) (u : OV × OV × (Nat → OV)) => post r u.1 u.2.1 u.2.2) below args s 0 0) (F0 m 61 ls [])) (hK84 : ∀ (H : Heap) (locs : List Loc) (ls : Array Slot) (y1 : Int32) (y2 : Int32) (y3 : Int32) (y4 : Int32) (y5 : Int32) (y6 : Int32) (y7 : Int32) (y8 : Int32) (y9 : Int32) (v_w : OV) (v_z : OV) (v_pr : (Nat → OV)), kn_I D tc (kn_A w0 s.heap.size) s.heap (List.flatten [[(kTin, ad_t, v_t)], [(kScene, ad_c, v_c)], [(kHill, ad_h, v_h)], [(kState, ad_s, v_s)], [(kWalk, ad_w, v_w)], [(kState, ad_z, v_z)], kn_pool kRule gn_pr ad_pr v_pr]) H locs → lv_has ls 10 [(0, .ref (ad_t 0)), (1, .int y1), (2, .int y2), (3, .int y3), (4, .int y4), (5, .int y5), (6, .int y6), (7, .int y7), (8, .int y8), (9, .int y9)] → K84 y1 y2 y3 y4 y5 y6 y7 y8 y9 v_w v_z v_pr → W p l e rmX8_years s m args below meth c H locs 0 0 (kn_Qi D tc w0 (fun (u : OV × OV × (Nat → OV)) => (List.flatten [[(kTin, ad_t, v_t)], [(kScene, ad_c, v_c)], [(kHill, ad_h, v_h)], [(kState, ad_s, v_s)], [(kWalk, ad_w, u.1)], [(kState, ad_z, u.2.1)], kn_pool kRule gn_pr ad_pr u.2.2])) (fun (r : Int32) (u : OV × OV × (Nat → OV)) => post r u.1 u.2.1 u.2.2) below args s 0 0) (F0 m 84 ls [])) : ∀ (H : Heap) (locs : List Loc) (ls : Array Slot) (t0 : Int32) (t3 : Option Nat) (t5 : Int32) (y1 : Int32) (y2 : Int32) (y3 : Int32) (y4 : Int32) (y5 : Int32) (y6 : Int32) (y8 : Int32) (y9 : Int32) (v_w : OV) (v_z : OV) (v_pr : (Nat → OV)), (ho_t3 : ∀ i, t3 = some i → i < gn_pr) → (hz_t5 : t5 = 0 ∨ t5 = 1) → kn_I D tc (kn_A w0 s.heap.size) s.heap (List.flatten [[(kTin, ad_t, v_t)], [(kScene, ad_c, v_c)], [(kHill, ad_h, v_h)], [(kState, ad_s, v_s)], [(kWalk, ad_w, v_w)], [(kState, ad_z, v_z)], kn_pool kRule gn_pr ad_pr v_pr]) H locs → lv_has ls 10 [(0, .ref (ad_t 0)), (1, .int y1), (2, .int y2), (3, .int y3), (4, .int y4), (5, .int y5), (6, .int y6), (8, .int y8), (9, .int y9)] → PX8_years_b136 v_t v_c v_h v_s gn_pr K61 K84 post t0 t3 t5 y1 y2 y3 y4 y5 y6 y8 y9 v_w v_z v_pr → W p l e rmX8_years s m args below meth c H locs 0 0 (kn_Qi D tc w0 (fun (u : OV × OV × (Nat → OV)) => (List.flatten [[(kTin, ad_t, v_t)], [(kScene, ad_c, v_c)], [(kHill, ad_h, v_h)], [(kState, ad_s, v_s)], [(kWalk, ad_w, u.1)], [(kState, ad_z, u.2.1)], kn_pool kRule gn_pr ad_pr u.2.2])) (fun (r : Int32) (u : OV × OV × (Nat → OV)) => post r u.1 u.2.1 u.2.2) below args s 0 0) (F0 m 136 ls [.int t5, .ref (ad_z 0), va_rf (t3.map (fun i => ad_pr i 0)), .ref (ad_h 0), .ref (ad_w 0), .int t0]) := by
  obtain ⟨S0, hr, hlocks, hK, hZ, hA⟩ := id X
  obtain ⟨hx, hb, hml, hown, hts⟩ := id S0
  intro H locs ls t0 t3 t5 y1 y2 y3 y4 y5 y6 y8 y9 v_w v_z v_pr ho_t3 hz_t5 I hl h
  unfold PX8_years_b136 at h
  rcases t3 with _ | i1
  · have h := h.1 rfl
    have I : kn_I D tc (kn_A w0 s.heap.size) s.heap ([(kWalk, ad_w, _), (kHill, ad_h, _), (kState, ad_z, _)] ++ (List.flatten [[(kTin, ad_t, _)], [(kScene, ad_c, _)], [(kState, ad_s, _)], kn_pool kRule gn_pr ad_pr _])) _ _ := I.perm (kn_segA (segs := [[(kTin, ad_t, _)], [(kScene, ad_c, _)], [(kHill, ad_h, _)], [(kState, ad_s, _)], [(kWalk, ad_w, _)], [(kState, ad_z, _)], kn_pool kRule gn_pr ad_pr _]) (sC := [[(kWalk, ad_w, _)], [(kHill, ad_h, _)], [(kState, ad_z, _)]]) (sR := [[(kTin, ad_t, _)], [(kScene, ad_c, _)], [(kState, ad_s, _)], kn_pool kRule gn_pr ad_pr _]) [4, 2, 5, 0, 1, 3, 6] rfl rfl)
    refine kw_calli (wc := [(kWalk, ad_w, _), (kHill, ad_h, _), (kState, ad_z, _)]) (wr := (List.flatten [[(kTin, ad_t, _)], [(kScene, ad_c, _)], [(kState, ad_s, _)], kn_pool kRule gn_pr ad_pr _])) I hA (kn_pl1 _ _) (kn_pl2 _ _) (kn_pl1_ok _ _) (kn_pl2_ok _ _) (kn_pl2_nd _ _) (kn_pl_dis _ _) (kn_runV (As := [.ref (ad_h 0), .null, .ref (ad_z 0), .int _]) S0 hK hZ hA I ((ctX7_pass_N hz_t5 h).met _) (kn_cwV 4 hts q3_183 q3_184 q3_185 q1_9 q3_186 rfl rfl (by decide +kernel) ⟨(Nat.le_of_ble_eq_true rfl), (Nat.le_of_ble_eq_true rfl)⟩) (kn_pl1 _ _) (kn_pl1_ok _ _) (kn_pl1_nd _ _) 0 rfl rfl rfl rfl hl.1 rfl (Nat.le_of_ble_eq_true rfl) (kn_dec tX8_years_t1 10 rfl) ⟨(Nat.le_of_ble_eq_true rfl), (Nat.le_of_ble_eq_true rfl)⟩) (fun r4 u5 H locs h I => ?_)
    have I : kn_I D tc (kn_A w0 s.heap.size) s.heap (List.flatten [[(kTin, ad_t, _)], [(kScene, ad_c, _)], [(kHill, ad_h, _)], [(kState, ad_s, _)], [(kWalk, ad_w, _)], [(kState, ad_z, _)], kn_pool kRule gn_pr ad_pr _]) _ _ := I.perm (kn_segB (sC := [[(kTin, ad_t, _)], [(kScene, ad_c, _)], [(kState, ad_s, _)], kn_pool kRule gn_pr ad_pr _]) (sR := [[(kWalk, ad_w, _)], [(kHill, ad_h, _)], [(kState, ad_z, _)]]) (segs := [[(kTin, ad_t, _)], [(kScene, ad_c, _)], [(kHill, ad_h, _)], [(kState, ad_s, _)], [(kWalk, ad_w, _)], [(kState, ad_z, _)], kn_pool kRule gn_pr ad_pr _]) [0, 1, 5, 2, 4, 6, 3] rfl rfl)
    refine lv_iadd hx hb (kn_dec tX8_years_t1 11 rfl) ?_
    refine lv_topi (fun x6 ex6 => ?_)
    have h := h x6 ex6
    refine lv_istore (lv' := [(7, .int _), (0, .ref (ad_t 0)), (1, .int _), (2, .int _), (3, .int _), (4, .int _), (5, .int _), (6, .int _), (8, .int _), (9, .int _)]) hx hb (kn_dec tX8_years_t1 12 rfl) hl (by decide) rfl (fun ls hl => ?_)
    refine kw_iinc (lvf := fun y => [(9, .int y), (7, .int _), (0, .ref (ad_t 0)), (1, .int _), (2, .int _), (3, .int _), (4, .int _), (5, .int _), (6, .int _), (8, .int _)]) (nv := (1)) hx hb (kn_dec tX8_years_t1 13 rfl) hl (k := 9) rfl (by decide) (by decide) (fun _ => rfl) (fun x7 ex7 ls hl => ?_)
    have h := h x7 ex7
    refine lv_goto (tgt := 84) hx hb (kn_dec tX8_years_t1 14 rfl) (by decide) ?_
    exact hK84 _ _ _ _ _ _ _ _ _ _ _ _ _ _ _  I (lv_sub hl [2, 3, 4, 5, 6, 7, 8, 1, 9, 0] rfl) h
  · have h := h.2 i1 rfl
    have hp_i1 := ho_t3 i1 rfl
    have I : kn_I D tc (kn_A w0 s.heap.size) s.heap (List.flatten [[(kRule, ad_pr i1, _)], kn_rest kRule gn_pr ad_pr _ i1, [(kTin, ad_t, _)], [(kScene, ad_c, _)], [(kHill, ad_h, _)], [(kState, ad_s, _)], [(kWalk, ad_w, _)], [(kState, ad_z, _)]]) _ _ := I.perm ((kn_seg (segs := [[(kTin, ad_t, _)], [(kScene, ad_c, _)], [(kHill, ad_h, _)], [(kState, ad_s, _)], [(kWalk, ad_w, _)], [(kState, ad_z, _)], kn_pool kRule gn_pr ad_pr _]) (segs' := [kn_pool kRule gn_pr ad_pr _, [(kTin, ad_t, _)], [(kScene, ad_c, _)], [(kHill, ad_h, _)], [(kState, ad_s, _)], [(kWalk, ad_w, _)], [(kState, ad_z, _)]]) [6, 0, 1, 2, 3, 4, 5] rfl rfl).trans (kn_focus hp_i1))
    have I : kn_I D tc (kn_A w0 s.heap.size) s.heap ([(kWalk, ad_w, _), (kHill, ad_h, _), (kRule, ad_pr i1, _), (kState, ad_z, _)] ++ (List.flatten [kn_rest kRule gn_pr ad_pr _ i1, [(kTin, ad_t, _)], [(kScene, ad_c, _)], [(kState, ad_s, _)]])) _ _ := I.perm (kn_segA (segs := [[(kRule, ad_pr i1, _)], kn_rest kRule gn_pr ad_pr _ i1, [(kTin, ad_t, _)], [(kScene, ad_c, _)], [(kHill, ad_h, _)], [(kState, ad_s, _)], [(kWalk, ad_w, _)], [(kState, ad_z, _)]]) (sC := [[(kWalk, ad_w, _)], [(kHill, ad_h, _)], [(kRule, ad_pr i1, _)], [(kState, ad_z, _)]]) (sR := [kn_rest kRule gn_pr ad_pr _ i1, [(kTin, ad_t, _)], [(kScene, ad_c, _)], [(kState, ad_s, _)]]) [6, 4, 0, 7, 1, 2, 3, 5] rfl rfl)
    refine kw_calli (wc := [(kWalk, ad_w, _), (kHill, ad_h, _), (kRule, ad_pr i1, _), (kState, ad_z, _)]) (wr := (List.flatten [kn_rest kRule gn_pr ad_pr _ i1, [(kTin, ad_t, _)], [(kScene, ad_c, _)], [(kState, ad_s, _)]])) I hA (kn_pl1 _ _) (kn_pl2 _ _) (kn_pl1_ok _ _) (kn_pl2_ok _ _) (kn_pl2_nd _ _) (kn_pl_dis _ _) (kn_runV (As := [.ref (ad_h 0), .ref (ad_pr i1 0), .ref (ad_z 0), .int _]) S0 hK hZ hA I ((ctX7_pass_R hz_t5 h).met _) (kn_cwV 4 hts q3_183 q3_184 q3_185 q1_9 q3_186 rfl rfl (by decide +kernel) ⟨(Nat.le_of_ble_eq_true rfl), (Nat.le_of_ble_eq_true rfl)⟩) (kn_pl1 _ _) (kn_pl1_ok _ _) (kn_pl1_nd _ _) 0 rfl rfl rfl rfl hl.1 rfl (Nat.le_of_ble_eq_true rfl) (kn_dec tX8_years_t1 10 rfl) ⟨(Nat.le_of_ble_eq_true rfl), (Nat.le_of_ble_eq_true rfl)⟩) (fun r11 u12 H locs h I => ?_)
    have I : kn_I D tc (kn_A w0 s.heap.size) s.heap (List.flatten [[(kTin, ad_t, _)], [(kScene, ad_c, _)], [(kHill, ad_h, _)], [(kState, ad_s, _)], [(kWalk, ad_w, _)], [(kState, ad_z, _)], kn_pool kRule gn_pr ad_pr _]) _ _ := I.perm ((kn_segB (sC := [kn_rest kRule gn_pr ad_pr _ i1, [(kTin, ad_t, _)], [(kScene, ad_c, _)], [(kState, ad_s, _)]]) (sR := [[(kWalk, ad_w, _)], [(kHill, ad_h, _)], [(kRule, ad_pr i1, _)], [(kState, ad_z, _)]]) (segs := [[(kRule, ad_pr i1, _)], kn_rest kRule gn_pr ad_pr _ i1, [(kTin, ad_t, _)], [(kScene, ad_c, _)], [(kHill, ad_h, _)], [(kState, ad_s, _)], [(kWalk, ad_w, _)], [(kState, ad_z, _)]]) [6, 0, 1, 2, 5, 3, 4, 7] rfl rfl).trans ((kn_unfocus hp_i1).trans (kn_seg (segs := [kn_pool kRule gn_pr ad_pr _, [(kTin, ad_t, _)], [(kScene, ad_c, _)], [(kHill, ad_h, _)], [(kState, ad_s, _)], [(kWalk, ad_w, _)], [(kState, ad_z, _)]]) (segs' := [[(kTin, ad_t, _)], [(kScene, ad_c, _)], [(kHill, ad_h, _)], [(kState, ad_s, _)], [(kWalk, ad_w, _)], [(kState, ad_z, _)], kn_pool kRule gn_pr ad_pr _]) [1, 2, 3, 4, 5, 6, 0] rfl rfl)))
    refine lv_iadd hx hb (kn_dec tX8_years_t1 11 rfl) ?_
    refine lv_topi (fun x13 ex13 => ?_)
    have h := h x13 ex13
    refine lv_istore (lv' := [(7, .int _), (0, .ref (ad_t 0)), (1, .int _), (2, .int _), (3, .int _), (4, .int _), (5, .int _), (6, .int _), (8, .int _), (9, .int _)]) hx hb (kn_dec tX8_years_t1 12 rfl) hl (by decide) rfl (fun ls hl => ?_)
    refine kw_iinc (lvf := fun y => [(9, .int y), (7, .int _), (0, .ref (ad_t 0)), (1, .int _), (2, .int _), (3, .int _), (4, .int _), (5, .int _), (6, .int _), (8, .int _)]) (nv := (1)) hx hb (kn_dec tX8_years_t1 13 rfl) hl (k := 9) rfl (by decide) (by decide) (fun _ => rfl) (fun x14 ex14 ls hl => ?_)
    have h := h x14 ex14
    refine lv_goto (tgt := 84) hx hb (kn_dec tX8_years_t1 14 rfl) (by decide) ?_
    exact hK84 _ _ _ _ _ _ _ _ _ _ _ _ _ _ _  I (lv_sub hl [2, 3, 4, 5, 6, 7, 8, 1, 9, 0] rfl) h
def PX8_years_L84 (v_t : OV) (v_c : OV) (v_h : OV) (v_s : OV) (gn_pr : Nat) (K61 : Int32 → Int32 → Int32 → Int32 → Int32 → Int32 → Int32 → Int32 → OV → OV → (Nat → OV) → Prop) (post : Int32 → OV → OV → (Nat → OV) → Prop) : Nat → Int32 → Int32 → Int32 → Int32 → Int32 → Int32 → Int32 → Int32 → Int32 → OV → OV → (Nat → OV) → Prop
  | 0, _, _, _, _, _, _, _, _, _, _, _, _ => False
  | n + 1, y1, y2, y3, y4, y5, y6, y7, y8, y9, v_w, v_z, v_pr => ((y2 ≤ y9 → ((¬ (v_z.1 2) = ((-1 : Int32)) → PX8_years_b166 v_t v_c v_h v_s gn_pr K61 post y6 ((0 : Int32)) y1 y2 y3 y4 y5 y7 y8 v_w v_z v_pr) ∧ ((v_z.1 2) = ((-1 : Int32)) → PX8_years_b166 v_t v_c v_h v_s gn_pr K61 post y6 ((1 : Int32)) y1 y2 y3 y4 y5 y7 y8 v_w v_z v_pr))) ∧ (¬ y2 ≤ y9 → (PX8_drawnAfter y5 (fun r3 => (PX8_ruleInForce v_t v_c v_pr gn_pr (fun r5 => ((y3 ≤ ((r3 / ((65536 : Int32))) - (r3 / ((65536 : Int32))) / ((100 : Int32)) * ((100 : Int32))) → PX8_years_b136 v_t v_c v_h v_s gn_pr K61 (PX8_years_L84 v_t v_c v_h v_s gn_pr K61 post n) post y7 r5 ((0 : Int32)) y1 y2 y3 y4 r3 y6 y8 y9 v_w v_z v_pr) ∧ (¬ y3 ≤ ((r3 / ((65536 : Int32))) - (r3 / ((65536 : Int32))) / ((100 : Int32)) * ((100 : Int32))) → PX8_years_b136 v_t v_c v_h v_s gn_pr K61 (PX8_years_L84 v_t v_c v_h v_s gn_pr K61 post n) post y7 r5 ((1 : Int32)) y1 y2 y3 y4 r3 y6 y8 y9 v_w v_z v_pr))))))))
set_option maxRecDepth 100000 in
set_option maxHeartbeats 1000000 in
theorem wX8_years_L84 {v_t : OV} {v_c : OV} {v_h : OV} {v_s : OV} {gn_pr : Nat} {K61 : Int32 → Int32 → Int32 → Int32 → Int32 → Int32 → Int32 → Int32 → OV → OV → (Nat → OV) → Prop} {post : Int32 → OV → OV → (Nat → OV) → Prop} {ad_t : Nat → Nat} {ad_c : Nat → Nat} {ad_h : Nat → Nat} {ad_s : Nat → Nat} {ad_w : Nat → Nat} {ad_z : Nat → Nat} {ad_pr : Nat → Nat → Nat} (X : kn_X p s m args meth c cX8_years 10 (some .int) RX8 kn_all D tc Z (kn_A w0 s.heap.size)) (e_t_6 : ad_t (6 + 1) = ad_c 0) (e_c_0 : ad_c (0 + 1) = ad_h 0) (e_c_3 : ad_c (3 + 1) = ad_s 0) (e_t_8 : ad_t (8 + 1) = ad_w 0) (e_t_9 : ad_t (9 + 1) = ad_z 0) (p_t_4 : ∀ i, i < gn_pr → kn_q ad_t 4 i = some (ad_pr i 0))  (hK61 : ∀ (H : Heap) (locs : List Loc) (ls : Array Slot) (y1 : Int32) (y2 : Int32) (y3 : Int32) (y4 : Int32) (y5 : Int32) (y6 : Int32) (y7 : Int32) (y8 : Int32) (v_w : OV) (v_z : OV) (v_pr : (Nat → OV)), kn_I D tc (kn_A w0 s.heap.size) s.heap (List.flatten [[(kTin, ad_t, v_t)], [(kScene, ad_c, v_c)], [(kHill, ad_h, v_h)], [(kState, ad_s, v_s)], [(kWalk, ad_w, v_w)], [(kState, ad_z, v_z)], kn_pool kRule gn_pr ad_pr v_pr]) H locs → lv_has ls 10 [(0, .ref (ad_t 0)), (1, .int y1), (2, .int y2), (3, .int y3), (4, .int y4), (5, .int y5), (6, .int y6), (7, .int y7), (8, .int y8)] → K61 y1 y2 y3 y4 y5 y6 y7 y8 v_w v_z v_pr → W p l e rmX8_years s m args below meth c H locs 0 0 (kn_Qi D tc w0 (fun (u : OV × OV × (Nat → OV)) => (List.flatten [[(kTin, ad_t, v_t)], [(kScene, ad_c, v_c)], [(kHill, ad_h, v_h)], [(kState, ad_s, v_s)], [(kWalk, ad_w, u.1)], [(kState, ad_z, u.2.1)], kn_pool kRule gn_pr ad_pr u.2.2])) (fun (r : Int32) (u : OV × OV × (Nat → OV)) => post r u.1 u.2.1 u.2.2) below args s 0 0) (F0 m 61 ls [])) : ∀ n : Nat, ∀ (H : Heap) (locs : List Loc) (ls : Array Slot) (y1 : Int32) (y2 : Int32) (y3 : Int32) (y4 : Int32) (y5 : Int32) (y6 : Int32) (y7 : Int32) (y8 : Int32) (y9 : Int32) (v_w : OV) (v_z : OV) (v_pr : (Nat → OV)), kn_I D tc (kn_A w0 s.heap.size) s.heap (List.flatten [[(kTin, ad_t, v_t)], [(kScene, ad_c, v_c)], [(kHill, ad_h, v_h)], [(kState, ad_s, v_s)], [(kWalk, ad_w, v_w)], [(kState, ad_z, v_z)], kn_pool kRule gn_pr ad_pr v_pr]) H locs → lv_has ls 10 [(0, .ref (ad_t 0)), (1, .int y1), (2, .int y2), (3, .int y3), (4, .int y4), (5, .int y5), (6, .int y6), (7, .int y7), (8, .int y8), (9, .int y9)] → PX8_years_L84 v_t v_c v_h v_s gn_pr K61 post n y1 y2 y3 y4 y5 y6 y7 y8 y9 v_w v_z v_pr → W p l e rmX8_years s m args below meth c H locs 0 0 (kn_Qi D tc w0 (fun (u : OV × OV × (Nat → OV)) => (List.flatten [[(kTin, ad_t, v_t)], [(kScene, ad_c, v_c)], [(kHill, ad_h, v_h)], [(kState, ad_s, v_s)], [(kWalk, ad_w, u.1)], [(kState, ad_z, u.2.1)], kn_pool kRule gn_pr ad_pr u.2.2])) (fun (r : Int32) (u : OV × OV × (Nat → OV)) => post r u.1 u.2.1 u.2.2) below args s 0 0) (F0 m 84 ls []) := by
  obtain ⟨S0, hr, hlocks, hK, hZ, hA⟩ := id X
  obtain ⟨hx, hb, hml, hown, hts⟩ := id S0
  intro n
  induction n with
  | zero =>
    intro H locs ls y1 y2 y3 y4 y5 y6 y7 y8 y9 v_w v_z v_pr I hl h
    unfold PX8_years_L84 at h
    exact h.elim
  | succ n ih =>
    intro H locs ls y1 y2 y3 y4 y5 y6 y7 y8 y9 v_w v_z v_pr I hl h
    unfold PX8_years_L84 at h
    refine lv_iload hx hb (kn_dec tX8_years_t0 44 rfl) (lv_at hl 9 rfl) ?_
    refine lv_iload_n hx hb (kn_dec tX8_years_t0 45 rfl) rfl (lv_at hl 2 rfl) ?_
    refine lv_icmp_ge (tgt := 148) hx hb (kn_dec tX8_years_t0 46 rfl) (by decide) (fun c1 => ?_) (fun c1 => ?_)
    · have h := h.1 c1
      refine lv_iload hx hb (kn_dec tX8_years_t1 15 rfl) (lv_at hl 6 rfl) ?_
      refine lv_aload_n hx hb (kn_dec tX8_years_t1 16 rfl) rfl (lv_at hl 0 rfl) ?_
      refine kw_getl hx hb hts inX8 hown hK I 0 rfl rfl 9 (by decide) rfl (hts _ q2_108) (kn_dec tX8_years_t1 17 rfl) e_t_9 ?_
      refine kw_geti hx hb hts inX6 hown hK I 5 rfl rfl 2 (by decide) rfl (hts _ q1_227) (kn_dec tX8_years_t1 18 rfl) ?_
      refine lv_iconst (v := (-1)) hx hb (kn_dec tX8_years_t1 19 rfl) (by decide) ?_
      refine lv_icmp_ne (tgt := 165) hx hb (kn_dec tX8_years_t1 20 rfl) (by decide) (fun c2 => ?_) (fun c2 => ?_)
      · have h := h.1 c2
        refine lv_iconst (v := (0)) hx hb (kn_dec tX8_years_t1 23 rfl) (by decide) ?_
        exact wX8_years_b166 X e_t_6 e_c_0 e_c_3 e_t_8 e_t_9 p_t_4 hK61 _ _ _ _ _ _ _ _ _ _ _ _ _ _ _ (Or.inl rfl) I (lv_sub hl [0, 1, 2, 3, 4, 5, 7, 8] rfl) h
      · have h := h.2 c2
        refine lv_iconst (v := (1)) hx hb (kn_dec tX8_years_t1 21 rfl) (by decide) ?_
        refine lv_goto (tgt := 166) hx hb (kn_dec tX8_years_t1 22 rfl) (by decide) ?_
        exact wX8_years_b166 X e_t_6 e_c_0 e_c_3 e_t_8 e_t_9 p_t_4 hK61 _ _ _ _ _ _ _ _ _ _ _ _ _ _ _ (Or.inr rfl) I (lv_sub hl [0, 1, 2, 3, 4, 5, 7, 8] rfl) h
    · have h := h.2 c1
      refine lv_iload hx hb (kn_dec tX8_years_t0 47 rfl) (lv_at hl 5 rfl) ?_
      have I : kn_I D tc (kn_A w0 s.heap.size) s.heap ([] ++ (List.flatten [[(kTin, ad_t, _)], [(kScene, ad_c, _)], [(kHill, ad_h, _)], [(kState, ad_s, _)], [(kWalk, ad_w, _)], [(kState, ad_z, _)], kn_pool kRule gn_pr ad_pr _])) _ _ := I.perm (kn_segA (segs := [[(kTin, ad_t, _)], [(kScene, ad_c, _)], [(kHill, ad_h, _)], [(kState, ad_s, _)], [(kWalk, ad_w, _)], [(kState, ad_z, _)], kn_pool kRule gn_pr ad_pr _]) (sC := []) (sR := [[(kTin, ad_t, _)], [(kScene, ad_c, _)], [(kHill, ad_h, _)], [(kState, ad_s, _)], [(kWalk, ad_w, _)], [(kState, ad_z, _)], kn_pool kRule gn_pr ad_pr _]) [0, 1, 2, 3, 4, 5, 6] rfl rfl)
      refine kw_calli (wc := []) (wr := (List.flatten [[(kTin, ad_t, _)], [(kScene, ad_c, _)], [(kHill, ad_h, _)], [(kState, ad_s, _)], [(kWalk, ad_w, _)], [(kState, ad_z, _)], kn_pool kRule gn_pr ad_pr _])) I hA (kn_pl1 _ _) (kn_pl2 _ _) (kn_pl1_ok _ _) (kn_pl2_ok _ _) (kn_pl2_nd _ _) (kn_pl_dis _ _) (kn_runS (As := [.int _]) S0 hK hZ hA I ((ctX8_drawnAfter h).met _) (kn_cwS 1 hts q4_169 q4_170 q1_1 q4_171 rfl rfl (by decide +kernel) ⟨(Nat.le_of_ble_eq_true rfl), (Nat.le_of_ble_eq_true rfl)⟩) (kn_pl1 _ _) (kn_pl1_ok _ _) (kn_pl1_nd _ _) rfl hl.1 rfl (Nat.le_of_ble_eq_true rfl) (kn_dec tX8_years_t0 48 rfl) ⟨(Nat.le_of_ble_eq_true rfl), (Nat.le_of_ble_eq_true rfl)⟩) (fun r3 u4 H locs h I => ?_)
      have I : kn_I D tc (kn_A w0 s.heap.size) s.heap (List.flatten [[(kTin, ad_t, _)], [(kScene, ad_c, _)], [(kHill, ad_h, _)], [(kState, ad_s, _)], [(kWalk, ad_w, _)], [(kState, ad_z, _)], kn_pool kRule gn_pr ad_pr _]) _ _ := I.perm (kn_segB (sC := [[(kTin, ad_t, _)], [(kScene, ad_c, _)], [(kHill, ad_h, _)], [(kState, ad_s, _)], [(kWalk, ad_w, _)], [(kState, ad_z, _)], kn_pool kRule gn_pr ad_pr _]) (sR := []) (segs := [[(kTin, ad_t, _)], [(kScene, ad_c, _)], [(kHill, ad_h, _)], [(kState, ad_s, _)], [(kWalk, ad_w, _)], [(kState, ad_z, _)], kn_pool kRule gn_pr ad_pr _]) [0, 1, 2, 3, 4, 5, 6] rfl rfl)
      refine lv_istore (lv' := [(5, .int _), (0, .ref (ad_t 0)), (1, .int _), (2, .int _), (3, .int _), (4, .int _), (6, .int _), (7, .int _), (8, .int _), (9, .int _)]) hx hb (kn_dec tX8_years_t0 49 rfl) hl (by decide) rfl (fun ls hl => ?_)
      refine lv_iload hx hb (kn_dec tX8_years_t0 50 rfl) (lv_at hl 7 rfl) ?_
      refine lv_aload_n hx hb (kn_dec tX8_years_t0 51 rfl) rfl (lv_at hl 1 rfl) ?_
      refine kw_getl hx hb hts inX8 hown hK I 0 rfl rfl 8 (by decide) rfl (hts _ q2_107) (kn_dec tX8_years_t0 52 rfl) e_t_8 ?_
      refine lv_aload_n hx hb (kn_dec tX8_years_t0 53 rfl) rfl (lv_at hl 1 rfl) ?_
      refine kw_getl hx hb hts inX8 hown hK I 0 rfl rfl 6 (by decide) rfl (hts _ q2_105) (kn_dec tX8_years_t0 54 rfl) e_t_6 ?_
      refine kw_getl hx hb hts inX5 hown hK I 1 rfl rfl 0 (by decide) rfl (hts _ q2_28) (kn_dec tX8_years_t0 55 rfl) e_c_0 ?_
      refine lv_aload_n hx hb (kn_dec tX8_years_t0 56 rfl) rfl (lv_at hl 1 rfl) ?_
      have I : kn_I D tc (kn_A w0 s.heap.size) s.heap ((List.flatten [[(kTin, ad_t, _)], [(kScene, ad_c, _)], kn_pool kRule gn_pr ad_pr _]) ++ (List.flatten [[(kHill, ad_h, _)], [(kState, ad_s, _)], [(kWalk, ad_w, _)], [(kState, ad_z, _)]])) _ _ := I.perm (kn_segA (segs := [[(kTin, ad_t, _)], [(kScene, ad_c, _)], [(kHill, ad_h, _)], [(kState, ad_s, _)], [(kWalk, ad_w, _)], [(kState, ad_z, _)], kn_pool kRule gn_pr ad_pr _]) (sC := [[(kTin, ad_t, _)], [(kScene, ad_c, _)], kn_pool kRule gn_pr ad_pr _]) (sR := [[(kHill, ad_h, _)], [(kState, ad_s, _)], [(kWalk, ad_w, _)], [(kState, ad_z, _)]]) [0, 1, 6, 2, 3, 4, 5] rfl rfl)
      refine kw_callq (wc := (List.flatten [[(kTin, ad_t, _)], [(kScene, ad_c, _)], kn_pool kRule gn_pr ad_pr _])) (wr := (List.flatten [[(kHill, ad_h, _)], [(kState, ad_s, _)], [(kWalk, ad_w, _)], [(kState, ad_z, _)]])) I hA (kn_pl1 _ _) (kn_pl2 _ _) (kn_pl1_ok _ _) (kn_pl2_ok _ _) (kn_pl2_nd _ _) (kn_pl_dis _ _) (kn_runV (As := []) S0 hK hZ hA I ((ctX8_ruleInForce e_t_6 p_t_4 h).met _) (kn_cwV 0 hts q3_175 q3_177 q0_14 q1_1 q3_178 rfl rfl (by decide +kernel) ⟨(Nat.le_of_ble_eq_true rfl), (Nat.le_of_ble_eq_true rfl)⟩) (kn_pl1 _ _) (kn_pl1_ok _ _) (kn_pl1_nd _ _) 0 rfl rfl rfl rfl hl.1 rfl (Nat.le_of_ble_eq_true rfl) (kn_dec tX8_years_t0 57 rfl) ⟨(Nat.le_of_ble_eq_true rfl), (Nat.le_of_ble_eq_true rfl)⟩) (fun r5 u6 H locs h I => ?_)
      obtain ⟨r5, ho_r5, rfl, h⟩ := h
      have I : kn_I D tc (kn_A w0 s.heap.size) s.heap (List.flatten [[(kTin, ad_t, _)], [(kScene, ad_c, _)], [(kHill, ad_h, _)], [(kState, ad_s, _)], [(kWalk, ad_w, _)], [(kState, ad_z, _)], kn_pool kRule gn_pr ad_pr _]) _ _ := I.perm (kn_segB (sC := [[(kHill, ad_h, _)], [(kState, ad_s, _)], [(kWalk, ad_w, _)], [(kState, ad_z, _)]]) (sR := [[(kTin, ad_t, _)], [(kScene, ad_c, _)], kn_pool kRule gn_pr ad_pr _]) (segs := [[(kTin, ad_t, _)], [(kScene, ad_c, _)], [(kHill, ad_h, _)], [(kState, ad_s, _)], [(kWalk, ad_w, _)], [(kState, ad_z, _)], kn_pool kRule gn_pr ad_pr _]) [4, 5, 0, 1, 2, 3, 6] rfl rfl)
      refine lv_aload_n hx hb (kn_dec tX8_years_t0 58 rfl) rfl (lv_at hl 1 rfl) ?_
      refine kw_getl hx hb hts inX8 hown hK I 0 rfl rfl 9 (by decide) rfl (hts _ q2_108) (kn_dec tX8_years_t0 59 rfl) e_t_9 ?_
      refine lv_iload hx hb (kn_dec tX8_years_t1 0 rfl) (lv_at hl 0 rfl) ?_
      refine lv_ldcw (v := (65536)) hx hb hown (hts _ q4_175) (kn_dec tX8_years_t1 1 rfl) ?_
      refine lv_idiv hx hb (kn_dec tX8_years_t1 2 rfl) (by decide) ?_
      refine lv_bipush (v := (100)) hx hb (kn_dec tX8_years_t1 3 rfl) (by decide) ?_
      refine lv_irem hx hb (kn_dec tX8_years_t1 4 rfl) (by decide) ?_
      refine lv_iload_n hx hb (kn_dec tX8_years_t1 5 rfl) rfl (lv_at hl 4 rfl) ?_
      refine lv_icmp_ge (tgt := 135) hx hb (kn_dec tX8_years_t1 6 rfl) (by decide) (fun c7 => ?_) (fun c7 => ?_)
      · have h := h.1 c7
        refine lv_iconst (v := (0)) hx hb (kn_dec tX8_years_t1 9 rfl) (by decide) ?_
        exact wX8_years_b136 X e_t_6 e_c_0 e_c_3 e_t_8 e_t_9 p_t_4 hK61 ih _ _ _ _ _ _ _ _ _ _ _ _ _ _ _ _ _ ho_r5 (Or.inl rfl) I (lv_sub hl [1, 2, 3, 4, 5, 0, 6, 8, 9] rfl) h
      · have h := h.2 c7
        refine lv_iconst (v := (1)) hx hb (kn_dec tX8_years_t1 7 rfl) (by decide) ?_
        refine lv_goto (tgt := 136) hx hb (kn_dec tX8_years_t1 8 rfl) (by decide) ?_
        exact wX8_years_b136 X e_t_6 e_c_0 e_c_3 e_t_8 e_t_9 p_t_4 hK61 ih _ _ _ _ _ _ _ _ _ _ _ _ _ _ _ _ _ ho_r5 (Or.inr rfl) I (lv_sub hl [1, 2, 3, 4, 5, 0, 6, 8, 9] rfl) h
def PX8_years_L61 (v_t : OV) (v_c : OV) (v_h : OV) (v_s : OV) (gn_pr : Nat)  (post : Int32 → OV → OV → (Nat → OV) → Prop) : Nat → Int32 → Int32 → Int32 → Int32 → Int32 → Int32 → Int32 → Int32 → OV → OV → (Nat → OV) → Prop
  | 0, _, _, _, _, _, _, _, _, _, _, _ => False
  | n + 1, y1, y2, y3, y4, y5, y6, y7, y8, v_w, v_z, v_pr => ((y1 ≤ y8 → ((¬ y4 = ((0 : Int32)) → post y7 v_w v_z v_pr) ∧ (y4 = ((0 : Int32)) → post y6 v_w v_z v_pr))) ∧ (¬ y1 ≤ y8 → (PX6_copy v_z v_s (fun v_z3 => (∃ n5 : Nat, PX8_years_L84 v_t v_c v_h v_s gn_pr (PX8_years_L61 v_t v_c v_h v_s gn_pr post n) post n5 y1 y2 y3 y4 y5 y6 y7 y8 ((0 : Int32)) v_w v_z3 v_pr)))))
set_option maxRecDepth 100000 in
set_option maxHeartbeats 1000000 in
theorem wX8_years_L61 {v_t : OV} {v_c : OV} {v_h : OV} {v_s : OV} {gn_pr : Nat}  {post : Int32 → OV → OV → (Nat → OV) → Prop} {ad_t : Nat → Nat} {ad_c : Nat → Nat} {ad_h : Nat → Nat} {ad_s : Nat → Nat} {ad_w : Nat → Nat} {ad_z : Nat → Nat} {ad_pr : Nat → Nat → Nat} (X : kn_X p s m args meth c cX8_years 10 (some .int) RX8 kn_all D tc Z (kn_A w0 s.heap.size)) (e_t_6 : ad_t (6 + 1) = ad_c 0) (e_c_0 : ad_c (0 + 1) = ad_h 0) (e_c_3 : ad_c (3 + 1) = ad_s 0) (e_t_8 : ad_t (8 + 1) = ad_w 0) (e_t_9 : ad_t (9 + 1) = ad_z 0) (p_t_4 : ∀ i, i < gn_pr → kn_q ad_t 4 i = some (ad_pr i 0))   : ∀ n : Nat, ∀ (H : Heap) (locs : List Loc) (ls : Array Slot) (y1 : Int32) (y2 : Int32) (y3 : Int32) (y4 : Int32) (y5 : Int32) (y6 : Int32) (y7 : Int32) (y8 : Int32) (v_w : OV) (v_z : OV) (v_pr : (Nat → OV)), kn_I D tc (kn_A w0 s.heap.size) s.heap (List.flatten [[(kTin, ad_t, v_t)], [(kScene, ad_c, v_c)], [(kHill, ad_h, v_h)], [(kState, ad_s, v_s)], [(kWalk, ad_w, v_w)], [(kState, ad_z, v_z)], kn_pool kRule gn_pr ad_pr v_pr]) H locs → lv_has ls 10 [(0, .ref (ad_t 0)), (1, .int y1), (2, .int y2), (3, .int y3), (4, .int y4), (5, .int y5), (6, .int y6), (7, .int y7), (8, .int y8)] → PX8_years_L61 v_t v_c v_h v_s gn_pr post n y1 y2 y3 y4 y5 y6 y7 y8 v_w v_z v_pr → W p l e rmX8_years s m args below meth c H locs 0 0 (kn_Qi D tc w0 (fun (u : OV × OV × (Nat → OV)) => (List.flatten [[(kTin, ad_t, v_t)], [(kScene, ad_c, v_c)], [(kHill, ad_h, v_h)], [(kState, ad_s, v_s)], [(kWalk, ad_w, u.1)], [(kState, ad_z, u.2.1)], kn_pool kRule gn_pr ad_pr u.2.2])) (fun (r : Int32) (u : OV × OV × (Nat → OV)) => post r u.1 u.2.1 u.2.2) below args s 0 0) (F0 m 61 ls []) := by
  obtain ⟨S0, hr, hlocks, hK, hZ, hA⟩ := id X
  obtain ⟨hx, hb, hml, hown, hts⟩ := id S0
  intro n
  induction n with
  | zero =>
    intro H locs ls y1 y2 y3 y4 y5 y6 y7 y8 v_w v_z v_pr I hl h
    unfold PX8_years_L61 at h
    exact h.elim
  | succ n ih =>
    intro H locs ls y1 y2 y3 y4 y5 y6 y7 y8 v_w v_z v_pr I hl h
    unfold PX8_years_L61 at h
    refine lv_iload hx hb (kn_dec tX8_years_t0 33 rfl) (lv_at hl 8 rfl) ?_
    refine lv_iload_n hx hb (kn_dec tX8_years_t0 34 rfl) rfl (lv_at hl 1 rfl) ?_
    refine lv_icmp_ge (tgt := 175) hx hb (kn_dec tX8_years_t0 35 rfl) (by decide) (fun c1 => ?_) (fun c1 => ?_)
    · have h := h.1 c1
      refine lv_iload hx hb (kn_dec tX8_years_t1 28 rfl) (lv_at hl 4 rfl) ?_
      refine lv_if_ne (tgt := 185) hx hb (kn_dec tX8_years_t1 29 rfl) (by decide) (fun c2 => ?_) (fun c2 => ?_)
      · have h := h.1 c2
        refine lv_iload hx hb (kn_dec tX8_years_t1 32 rfl) (lv_at hl 7 rfl) ?_
        exact kw_iret hx hb hr hlocks I (v_w, v_z, v_pr) rfl h (kn_dec tX8_years_t1 33 rfl)
      · have h := h.2 c2
        refine lv_iload hx hb (kn_dec tX8_years_t1 30 rfl) (lv_at hl 6 rfl) ?_
        refine lv_goto (tgt := 187) hx hb (kn_dec tX8_years_t1 31 rfl) (by decide) ?_
        exact kw_iret hx hb hr hlocks I (v_w, v_z, v_pr) rfl h (kn_dec tX8_years_t1 33 rfl)
    · have h := h.2 c1
      refine lv_aload_n hx hb (kn_dec tX8_years_t0 36 rfl) rfl (lv_at hl 0 rfl) ?_
      refine kw_getl hx hb hts inX8 hown hK I 0 rfl rfl 9 (by decide) rfl (hts _ q2_108) (kn_dec tX8_years_t0 37 rfl) e_t_9 ?_
      refine lv_aload_n hx hb (kn_dec tX8_years_t0 38 rfl) rfl (lv_at hl 0 rfl) ?_
      refine kw_getl hx hb hts inX8 hown hK I 0 rfl rfl 6 (by decide) rfl (hts _ q2_105) (kn_dec tX8_years_t0 39 rfl) e_t_6 ?_
      refine kw_getl hx hb hts inX5 hown hK I 1 rfl rfl 3 (by decide) rfl (hts _ q2_34) (kn_dec tX8_years_t0 40 rfl) e_c_3 ?_
      have I : kn_I D tc (kn_A w0 s.heap.size) s.heap ([(kState, ad_z, _), (kState, ad_s, _)] ++ (List.flatten [[(kTin, ad_t, _)], [(kScene, ad_c, _)], [(kHill, ad_h, _)], [(kWalk, ad_w, _)], kn_pool kRule gn_pr ad_pr _])) _ _ := I.perm (kn_segA (segs := [[(kTin, ad_t, _)], [(kScene, ad_c, _)], [(kHill, ad_h, _)], [(kState, ad_s, _)], [(kWalk, ad_w, _)], [(kState, ad_z, _)], kn_pool kRule gn_pr ad_pr _]) (sC := [[(kState, ad_z, _)], [(kState, ad_s, _)]]) (sR := [[(kTin, ad_t, _)], [(kScene, ad_c, _)], [(kHill, ad_h, _)], [(kWalk, ad_w, _)], kn_pool kRule gn_pr ad_pr _]) [5, 3, 0, 1, 2, 4, 6] rfl rfl)
      refine kw_callv (wc := [(kState, ad_z, _), (kState, ad_s, _)]) (wr := (List.flatten [[(kTin, ad_t, _)], [(kScene, ad_c, _)], [(kHill, ad_h, _)], [(kWalk, ad_w, _)], kn_pool kRule gn_pr ad_pr _])) I hA (kn_pl1 _ _) (kn_pl2 _ _) (kn_pl1_ok _ _) (kn_pl2_ok _ _) (kn_pl2_nd _ _) (kn_pl_dis _ _) (kn_runV (As := [.ref (ad_s 0)]) S0 hK hZ hA I ((ctX6_copy h).met _) (kn_cwV 1 hts q4_44 q3_171 q3_172 q1_8 q3_173 rfl rfl (by decide +kernel) ⟨(Nat.le_of_ble_eq_true rfl), (Nat.le_of_ble_eq_true rfl)⟩) (kn_pl1 _ _) (kn_pl1_ok _ _) (kn_pl1_nd _ _) 0 rfl rfl rfl rfl hl.1 rfl (Nat.le_of_ble_eq_true rfl) (kn_dec tX8_years_t0 41 rfl) ⟨(Nat.le_of_ble_eq_true rfl), (Nat.le_of_ble_eq_true rfl)⟩) (fun u4 H locs h I => ?_)
      have I : kn_I D tc (kn_A w0 s.heap.size) s.heap (List.flatten [[(kTin, ad_t, _)], [(kScene, ad_c, _)], [(kHill, ad_h, _)], [(kState, ad_s, _)], [(kWalk, ad_w, _)], [(kState, ad_z, _)], kn_pool kRule gn_pr ad_pr _]) _ _ := I.perm (kn_segB (sC := [[(kTin, ad_t, _)], [(kScene, ad_c, _)], [(kHill, ad_h, _)], [(kWalk, ad_w, _)], kn_pool kRule gn_pr ad_pr _]) (sR := [[(kState, ad_z, _)], [(kState, ad_s, _)]]) (segs := [[(kTin, ad_t, _)], [(kScene, ad_c, _)], [(kHill, ad_h, _)], [(kState, ad_s, _)], [(kWalk, ad_w, _)], [(kState, ad_z, _)], kn_pool kRule gn_pr ad_pr _]) [0, 1, 2, 6, 3, 5, 4] rfl rfl)
      refine lv_iconst (v := (0)) hx hb (kn_dec tX8_years_t0 42 rfl) (by decide) ?_
      refine lv_istore (lv' := [(9, .int _), (0, .ref (ad_t 0)), (1, .int _), (2, .int _), (3, .int _), (4, .int _), (5, .int _), (6, .int _), (7, .int _), (8, .int _)]) hx hb (kn_dec tX8_years_t0 43 rfl) hl (by decide) rfl (fun ls hl => ?_)
      obtain ⟨n5, h⟩ := h
      exact wX8_years_L84 X e_t_6 e_c_0 e_c_3 e_t_8 e_t_9 p_t_4 ih n5 _ _ _ _ _ _ _ _ _ _ _ _ _ _ _  I (lv_sub hl [1, 2, 3, 4, 5, 6, 7, 8, 9, 0] rfl) h
def PX8_years  (v_t : OV) (v_c : OV) (v_h : OV) (v_s : OV) (v_w : OV) (v_z : OV) (v_pr : (Nat → OV)) (gn_pr : Nat) (a1 : Int32) (a2 : Int32) (a3 : Int32) (a4 : Int32) (post : Int32 → OV → OV → (Nat → OV) → Prop) : Prop := (PX8_isTold v_t v_c v_h a4 (fun r1 => ((r1 = ((0 : Int32)) → post ((-1 : Int32)) v_w v_z v_pr) ∧ (¬ r1 = ((0 : Int32)) → ((a1 < ((1 : Int32)) → post ((-1 : Int32)) v_w v_z v_pr) ∧ (¬ a1 < ((1 : Int32)) → ((((10 : Int32)) < a1 → post ((-1 : Int32)) v_w v_z v_pr) ∧ (¬ ((10 : Int32)) < a1 → ((a2 < ((1 : Int32)) → post ((-1 : Int32)) v_w v_z v_pr) ∧ (¬ a2 < ((1 : Int32)) → ((((60 : Int32)) < a2 → post ((-1 : Int32)) v_w v_z v_pr) ∧ (¬ ((60 : Int32)) < a2 → ((a3 < ((0 : Int32)) → post ((-1 : Int32)) v_w v_z v_pr) ∧ (¬ a3 < ((0 : Int32)) → ((a3 ≤ ((100 : Int32)) → (∀ x10 : Int32, x10 = (v_c.1 2) → (∃ n11 : Nat, PX8_years_L61 v_t v_c v_h v_s gn_pr post n11 a1 a2 a3 a4 x10 ((0 : Int32)) ((0 : Int32)) ((0 : Int32)) v_w v_z v_pr))) ∧ (¬ a3 ≤ ((100 : Int32)) → post ((-1 : Int32)) v_w v_z v_pr))))))))))))))))
set_option maxRecDepth 100000 in
set_option maxHeartbeats 1000000 in
theorem ctX8_years {l : Launch} {D : va_G} {tc : Nat → ClassId} {Z : (Nat → Nat) × (Nat → Nat)}  {ad_t : Nat → Nat} {ad_c : Nat → Nat} {ad_h : Nat → Nat} {ad_s : Nat → Nat} {ad_w : Nat → Nat} {ad_z : Nat → Nat} {ad_pr : Nat → Nat → Nat} {v_t : OV} {v_c : OV} {v_h : OV} {v_s : OV} {v_w : OV} {v_z : OV} {v_pr : (Nat → OV)} {gn_pr : Nat} {a1 : Int32} {a2 : Int32} {a3 : Int32} {a4 : Int32} (e_t_6 : ad_t (6 + 1) = ad_c 0) (e_c_0 : ad_c (0 + 1) = ad_h 0) (e_c_3 : ad_c (3 + 1) = ad_s 0) (e_t_8 : ad_t (8 + 1) = ad_w 0) (e_t_9 : ad_t (9 + 1) = ad_z 0) (p_t_4 : ∀ i, i < gn_pr → kn_q ad_t 4 i = some (ad_pr i 0))   {post : Int32 → OV → OV → (Nat → OV) → Prop} (h : PX8_years  v_t v_c v_h v_s v_w v_z v_pr gn_pr a1 a2 a3 a4 post) : CTi l D tc Z yX8_years (Cond.code yX8_years cX8_years 10 (some .int) :: kn_all) rmX8_years 0 0 [.ref (ad_t 0), .int a1, .int a2, .int a3, .int a4] (List.flatten [[(kTin, ad_t, v_t)], [(kScene, ad_c, v_c)], [(kHill, ad_h, v_h)], [(kState, ad_s, v_s)], [(kWalk, ad_w, v_w)], [(kState, ad_z, v_z)], kn_pool kRule gn_pr ad_pr v_pr]) (fun (u : OV × OV × (Nat → OV)) => (List.flatten [[(kTin, ad_t, v_t)], [(kScene, ad_c, v_c)], [(kHill, ad_h, v_h)], [(kState, ad_s, v_s)], [(kWalk, ad_w, u.1)], [(kState, ad_z, u.2.1)], kn_pool kRule gn_pr ad_pr u.2.2])) (fun (r : Int32) (u : OV × OV × (Nat → OV)) => post r u.1 u.2.1 u.2.2) := by
  refine kn_ofi (cc := cX8_years) (nL := 10) (ret := (some .int)) (lv := [(0, .ref (ad_t 0)), (1, .int a1), (2, .int a2), (3, .int a3), (4, .int a4)]) (by decide) (Nat.le_of_ble_eq_true rfl) rfl (fun p e s m below meth c ls X I hl _ => ?_)
  obtain ⟨S0, hr, hlocks, hK, hZ, hA⟩ := id X
  obtain ⟨hx, hb, hml, hown, hts⟩ := id S0
  unfold PX8_years at h
  refine lv_aload_n hx hb (kn_dec tX8_years_t0 0 rfl) rfl (lv_at hl 0 rfl) ?_
  refine lv_iload hx hb (kn_dec tX8_years_t0 1 rfl) (lv_at hl 4 rfl) ?_
  have I : kn_I D tc (kn_A _ s.heap.size) s.heap ([(kTin, ad_t, _), (kScene, ad_c, _), (kHill, ad_h, _)] ++ (List.flatten [[(kState, ad_s, _)], [(kWalk, ad_w, _)], [(kState, ad_z, _)], kn_pool kRule gn_pr ad_pr _])) _ _ := I.perm (kn_segA (segs := [[(kTin, ad_t, _)], [(kScene, ad_c, _)], [(kHill, ad_h, _)], [(kState, ad_s, _)], [(kWalk, ad_w, _)], [(kState, ad_z, _)], kn_pool kRule gn_pr ad_pr _]) (sC := [[(kTin, ad_t, _)], [(kScene, ad_c, _)], [(kHill, ad_h, _)]]) (sR := [[(kState, ad_s, _)], [(kWalk, ad_w, _)], [(kState, ad_z, _)], kn_pool kRule gn_pr ad_pr _]) [0, 1, 2, 3, 4, 5, 6] rfl rfl)
  refine kw_calli (wc := [(kTin, ad_t, _), (kScene, ad_c, _), (kHill, ad_h, _)]) (wr := (List.flatten [[(kState, ad_s, _)], [(kWalk, ad_w, _)], [(kState, ad_z, _)], kn_pool kRule gn_pr ad_pr _])) I hA (kn_pl1 _ _) (kn_pl2 _ _) (kn_pl1_ok _ _) (kn_pl2_ok _ _) (kn_pl2_nd _ _) (kn_pl_dis _ _) (kn_runV (As := [.int _]) S0 hK hZ hA I ((ctX8_isTold e_t_6 e_c_0 h).met _) (kn_cwV 1 hts q4_58 q4_60 q0_22 q1_1 q4_61 rfl rfl (by decide +kernel) ⟨(Nat.le_of_ble_eq_true rfl), (Nat.le_of_ble_eq_true rfl)⟩) (kn_pl1 _ _) (kn_pl1_ok _ _) (kn_pl1_nd _ _) 0 rfl rfl rfl rfl hl.1 rfl (Nat.le_of_ble_eq_true rfl) (kn_dec tX8_years_t0 2 rfl) ⟨(Nat.le_of_ble_eq_true rfl), (Nat.le_of_ble_eq_true rfl)⟩) (fun r1 u2 H locs h I => ?_)
  obtain ⟨hz_r1, h⟩ := h
  have I : kn_I D tc (kn_A _ s.heap.size) s.heap (List.flatten [[(kTin, ad_t, _)], [(kScene, ad_c, _)], [(kHill, ad_h, _)], [(kState, ad_s, _)], [(kWalk, ad_w, _)], [(kState, ad_z, _)], kn_pool kRule gn_pr ad_pr _]) _ _ := I.perm (kn_segB (sC := [[(kState, ad_s, _)], [(kWalk, ad_w, _)], [(kState, ad_z, _)], kn_pool kRule gn_pr ad_pr _]) (sR := [[(kTin, ad_t, _)], [(kScene, ad_c, _)], [(kHill, ad_h, _)]]) (segs := [[(kTin, ad_t, _)], [(kScene, ad_c, _)], [(kHill, ad_h, _)], [(kState, ad_s, _)], [(kWalk, ad_w, _)], [(kState, ad_z, _)], kn_pool kRule gn_pr ad_pr _]) [4, 5, 6, 0, 1, 2, 3] rfl rfl)
  refine lv_if_eq (tgt := 41) hx hb (kn_dec tX8_years_t0 3 rfl) (by decide) (fun c3 => ?_) (fun c3 => ?_)
  · have h := h.1 c3
    refine lv_iconst (v := (-1)) hx hb (kn_dec tX8_years_t0 21 rfl) (by decide) ?_
    exact kw_iret hx hb hr hlocks I (v_w, v_z, v_pr) rfl h (kn_dec tX8_years_t0 22 rfl)
  · have h := h.2 c3
    refine lv_iload_n hx hb (kn_dec tX8_years_t0 4 rfl) rfl (lv_at hl 1 rfl) ?_
    refine lv_iconst (v := (1)) hx hb (kn_dec tX8_years_t0 5 rfl) (by decide) ?_
    refine lv_icmp_lt (tgt := 41) hx hb (kn_dec tX8_years_t0 6 rfl) (by decide) (fun c4 => ?_) (fun c4 => ?_)
    · have h := h.1 c4
      refine lv_iconst (v := (-1)) hx hb (kn_dec tX8_years_t0 21 rfl) (by decide) ?_
      exact kw_iret hx hb hr hlocks I (v_w, v_z, v_pr) rfl h (kn_dec tX8_years_t0 22 rfl)
    · have h := h.2 c4
      refine lv_iload_n hx hb (kn_dec tX8_years_t0 7 rfl) rfl (lv_at hl 1 rfl) ?_
      refine lv_bipush (v := (10)) hx hb (kn_dec tX8_years_t0 8 rfl) (by decide) ?_
      refine lv_icmp_gt (tgt := 41) hx hb (kn_dec tX8_years_t0 9 rfl) (by decide) (fun c5 => ?_) (fun c5 => ?_)
      · have h := h.1 c5
        refine lv_iconst (v := (-1)) hx hb (kn_dec tX8_years_t0 21 rfl) (by decide) ?_
        exact kw_iret hx hb hr hlocks I (v_w, v_z, v_pr) rfl h (kn_dec tX8_years_t0 22 rfl)
      · have h := h.2 c5
        refine lv_iload_n hx hb (kn_dec tX8_years_t0 10 rfl) rfl (lv_at hl 2 rfl) ?_
        refine lv_iconst (v := (1)) hx hb (kn_dec tX8_years_t0 11 rfl) (by decide) ?_
        refine lv_icmp_lt (tgt := 41) hx hb (kn_dec tX8_years_t0 12 rfl) (by decide) (fun c6 => ?_) (fun c6 => ?_)
        · have h := h.1 c6
          refine lv_iconst (v := (-1)) hx hb (kn_dec tX8_years_t0 21 rfl) (by decide) ?_
          exact kw_iret hx hb hr hlocks I (v_w, v_z, v_pr) rfl h (kn_dec tX8_years_t0 22 rfl)
        · have h := h.2 c6
          refine lv_iload_n hx hb (kn_dec tX8_years_t0 13 rfl) rfl (lv_at hl 2 rfl) ?_
          refine lv_bipush (v := (60)) hx hb (kn_dec tX8_years_t0 14 rfl) (by decide) ?_
          refine lv_icmp_gt (tgt := 41) hx hb (kn_dec tX8_years_t0 15 rfl) (by decide) (fun c7 => ?_) (fun c7 => ?_)
          · have h := h.1 c7
            refine lv_iconst (v := (-1)) hx hb (kn_dec tX8_years_t0 21 rfl) (by decide) ?_
            exact kw_iret hx hb hr hlocks I (v_w, v_z, v_pr) rfl h (kn_dec tX8_years_t0 22 rfl)
          · have h := h.2 c7
            refine lv_iload_n hx hb (kn_dec tX8_years_t0 16 rfl) rfl (lv_at hl 3 rfl) ?_
            refine lv_if_lt (tgt := 41) hx hb (kn_dec tX8_years_t0 17 rfl) (by decide) (fun c8 => ?_) (fun c8 => ?_)
            · have h := h.1 c8
              refine lv_iconst (v := (-1)) hx hb (kn_dec tX8_years_t0 21 rfl) (by decide) ?_
              exact kw_iret hx hb hr hlocks I (v_w, v_z, v_pr) rfl h (kn_dec tX8_years_t0 22 rfl)
            · have h := h.2 c8
              refine lv_iload_n hx hb (kn_dec tX8_years_t0 18 rfl) rfl (lv_at hl 3 rfl) ?_
              refine lv_bipush (v := (100)) hx hb (kn_dec tX8_years_t0 19 rfl) (by decide) ?_
              refine lv_icmp_le (tgt := 43) hx hb (kn_dec tX8_years_t0 20 rfl) (by decide) (fun c9 => ?_) (fun c9 => ?_)
              · have h := h.1 c9
                refine lv_aload_n hx hb (kn_dec tX8_years_t0 23 rfl) rfl (lv_at hl 0 rfl) ?_
                refine kw_getl hx hb hts inX8 hown hK I 0 rfl rfl 6 (by decide) rfl (hts _ q2_105) (kn_dec tX8_years_t0 24 rfl) e_t_6 ?_
                refine kw_geti hx hb hts inX5 hown hK I 1 rfl rfl 2 (by decide) rfl (hts _ q2_32) (kn_dec tX8_years_t0 25 rfl) ?_
                refine lv_topi (fun x10 ex10 => ?_)
                have h := h x10 ex10
                refine lv_istore (lv' := [(5, .int _), (0, .ref (ad_t 0)), (1, .int _), (2, .int _), (3, .int _), (4, .int _)]) hx hb (kn_dec tX8_years_t0 26 rfl) hl (by decide) rfl (fun ls hl => ?_)
                refine lv_iconst (v := (0)) hx hb (kn_dec tX8_years_t0 27 rfl) (by decide) ?_
                refine lv_istore (lv' := [(6, .int _), (5, .int _), (0, .ref (ad_t 0)), (1, .int _), (2, .int _), (3, .int _), (4, .int _)]) hx hb (kn_dec tX8_years_t0 28 rfl) hl (by decide) rfl (fun ls hl => ?_)
                refine lv_iconst (v := (0)) hx hb (kn_dec tX8_years_t0 29 rfl) (by decide) ?_
                refine lv_istore (lv' := [(7, .int _), (6, .int _), (5, .int _), (0, .ref (ad_t 0)), (1, .int _), (2, .int _), (3, .int _), (4, .int _)]) hx hb (kn_dec tX8_years_t0 30 rfl) hl (by decide) rfl (fun ls hl => ?_)
                refine lv_iconst (v := (0)) hx hb (kn_dec tX8_years_t0 31 rfl) (by decide) ?_
                refine lv_istore (lv' := [(8, .int _), (7, .int _), (6, .int _), (5, .int _), (0, .ref (ad_t 0)), (1, .int _), (2, .int _), (3, .int _), (4, .int _)]) hx hb (kn_dec tX8_years_t0 32 rfl) hl (by decide) rfl (fun ls hl => ?_)
                obtain ⟨n11, h⟩ := h
                exact wX8_years_L61 X e_t_6 e_c_0 e_c_3 e_t_8 e_t_9 p_t_4 n11 _ _ _ _ _ _ _ _ _ _ _ _ _ _  I (lv_sub hl [4, 5, 6, 7, 8, 3, 2, 1, 0] rfl) h
              · have h := h.2 c9
                refine lv_iconst (v := (-1)) hx hb (kn_dec tX8_years_t0 21 rfl) (by decide) ?_
                exact kw_iret hx hb hr hlocks I (v_w, v_z, v_pr) rfl h (kn_dec tX8_years_t0 22 rfl)

end
