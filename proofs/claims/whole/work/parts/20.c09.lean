section
variable {p : Program} {l : Launch} {e : Env} {s : State} {m : MethodId} {args : Array Value} {below : List Frame} {meth : Method} {c : Code} {D : va_G} {tc : Nat → ClassId} {Z : (Nat → Nat) × (Nat → Nat)} {w0 : List CH}

/-! X4_read -/
abbrev rmX4_read : Room := { frames := 621, cells := 0, slots := 0, locals := 12424 }
def PX4_read_b71 (v_t : OV) (K26 : Int32 → Int32 → OV → OV → OV → Prop) (post : Int32 → OV → OV → OV → Prop) (y4 : Int32) (v_q : OV) (v_r : OV) (v_u : OV) : Prop := (PX3_endClause v_u (fun v_u1 => (PX2_hasNextClause v_r v_t (fun r4 v_r3 => (∀ x6 : Int32, x6 = y4 + (1 : Int32) → K26 r4 x6 v_q v_r3 v_u1)))))
set_option maxRecDepth 100000 in
set_option maxHeartbeats 1000000 in
theorem wX4_read_b71 {v_t : OV} {K26 : Int32 → Int32 → OV → OV → OV → Prop} {post : Int32 → OV → OV → OV → Prop} {ad_q : Nat → Nat} {ad_r : Nat → Nat} {ad_u : Nat → Nat} {ad_t : Nat → Nat} (X : kn_X p s m args meth c cX4_read 5 (some .int) RX4 kn_all D tc Z (kn_A w0 s.heap.size)) (e_q_0 : ad_q (0 + 1) = ad_r 0) (e_q_1 : ad_q (1 + 1) = ad_u 0) (e_r_0 : ad_r (0 + 1) = ad_t (0 + 1))  (hK26 : ∀ (H : Heap) (locs : List Loc) (ls : Array Slot) (y3 : Int32) (y4 : Int32) (v_q : OV) (v_r : OV) (v_u : OV), (hz_y3 : y3 = 0 ∨ y3 = 1) → kn_I D tc (kn_A w0 s.heap.size) s.heap [(kRuleReader, ad_q, v_q), (kReader, ad_r, v_r), (kRule, ad_u, v_u), (kTin, ad_t, v_t)] H locs → lv_has ls 5 [(0, .ref (ad_q 0)), (3, .int y3), (4, .int y4)] → K26 y3 y4 v_q v_r v_u → W p l e rmX4_read s m args below meth c H locs 0 0 (kn_Qi D tc w0 (fun (u : OV × OV × OV) => [(kRuleReader, ad_q, u.1), (kReader, ad_r, u.2.1), (kRule, ad_u, u.2.2), (kTin, ad_t, v_t)]) (fun (r : Int32) (u : OV × OV × OV) => post r u.1 u.2.1 u.2.2) below args s 0 0) (F0 m 26 ls [])) : ∀ (H : Heap) (locs : List Loc) (ls : Array Slot) (y4 : Int32) (v_q : OV) (v_r : OV) (v_u : OV), kn_I D tc (kn_A w0 s.heap.size) s.heap [(kRuleReader, ad_q, v_q), (kReader, ad_r, v_r), (kRule, ad_u, v_u), (kTin, ad_t, v_t)] H locs → lv_has ls 5 [(0, .ref (ad_q 0)), (4, .int y4)] → PX4_read_b71 v_t K26 post y4 v_q v_r v_u → W p l e rmX4_read s m args below meth c H locs 0 0 (kn_Qi D tc w0 (fun (u : OV × OV × OV) => [(kRuleReader, ad_q, u.1), (kReader, ad_r, u.2.1), (kRule, ad_u, u.2.2), (kTin, ad_t, v_t)]) (fun (r : Int32) (u : OV × OV × OV) => post r u.1 u.2.1 u.2.2) below args s 0 0) (F0 m 71 ls []) := by
  obtain ⟨S0, hr, hlocks, hK, hZ, hA⟩ := id X
  obtain ⟨hx, hb, hml, hown, hts⟩ := id S0
  intro H locs ls y4 v_q v_r v_u I hl h
  unfold PX4_read_b71 at h
  refine lv_aload_n hx hb (kn_dec tX4_read 36 rfl) rfl (lv_at hl 0 rfl) ?_
  refine kw_getl hx hb hts inX4 hown hK I 0 rfl rfl 1 (by decide) rfl (hts _ q1_95) (kn_dec tX4_read 37 rfl) e_q_1 ?_
  refine kw_callv (wc := [(kRule, ad_u, _)]) (wr := [(kRuleReader, ad_q, _), (kReader, ad_r, _), (kTin, ad_t, _)]) I hA [2] [0, 1, 3] rfl rfl (by decide) (by decide) (kn_runV (As := []) S0 hK hZ hA I ((ctX3_endClause h).met _) (kn_cwV 0 hts q3_125 q3_126 q3_127 q1_5 q3_128 rfl rfl (by decide +kernel) ⟨(Nat.le_of_ble_eq_true rfl), (Nat.le_of_ble_eq_true rfl)⟩) [2] rfl (by decide) 2 rfl rfl rfl rfl hl.1 rfl (Nat.le_of_ble_eq_true rfl) (kn_dec tX4_read 38 rfl) ⟨(Nat.le_of_ble_eq_true rfl), (Nat.le_of_ble_eq_true rfl)⟩) (fun u2 H locs h I => ?_)
  have I : kn_I D tc (kn_A w0 s.heap.size) s.heap [(kRuleReader, ad_q, _), (kReader, ad_r, _), (kRule, ad_u, _), (kTin, ad_t, _)] _ _ := I.sub [0, 1, 3, 2] (by decide) rfl
  refine lv_aload_n hx hb (kn_dec tX4_read 39 rfl) rfl (lv_at hl 0 rfl) ?_
  refine kw_getl hx hb hts inX4 hown hK I 0 rfl rfl 0 (by decide) rfl (hts _ q1_94) (kn_dec tX4_read 40 rfl) e_q_0 ?_
  refine kw_calli (wc := [(kReader, ad_r, _), (kTin, ad_t, _)]) (wr := [(kRuleReader, ad_q, _), (kRule, ad_u, _)]) I hA [1, 3] [0, 2] rfl rfl (by decide) (by decide) (kn_runV (As := []) S0 hK hZ hA I ((ctX2_hasNextClause e_r_0 h).met _) (kn_cwV 0 hts q3_129 q3_23 q3_24 q1_3 q3_25 rfl rfl (by decide +kernel) ⟨(Nat.le_of_ble_eq_true rfl), (Nat.le_of_ble_eq_true rfl)⟩) [1, 3] rfl (by decide) 1 rfl rfl rfl rfl hl.1 rfl (Nat.le_of_ble_eq_true rfl) (kn_dec tX4_read 41 rfl) ⟨(Nat.le_of_ble_eq_true rfl), (Nat.le_of_ble_eq_true rfl)⟩) (fun r4 u5 H locs h I => ?_)
  obtain ⟨hz_r4, h⟩ := h
  have I : kn_I D tc (kn_A w0 s.heap.size) s.heap [(kRuleReader, ad_q, _), (kReader, ad_r, _), (kRule, ad_u, _), (kTin, ad_t, _)] _ _ := I.sub [0, 2, 1, 3] (by decide) rfl
  refine lv_istore_n (lv' := [(3, .int _), (0, .ref (ad_q 0)), (4, .int _)]) hx hb (kn_dec tX4_read 42 rfl) rfl hl (by decide) rfl (fun ls hl => ?_)
  refine kw_iinc (lvf := fun y => [(4, .int y), (3, .int _), (0, .ref (ad_q 0))]) (nv := (1)) hx hb (kn_dec tX4_read 43 rfl) hl (k := 2) rfl (by decide) (by decide) (fun _ => rfl) (fun x6 ex6 ls hl => ?_)
  have h := h x6 ex6
  refine lv_goto (tgt := 26) hx hb (kn_dec tX4_read 44 rfl) (by decide) ?_
  exact hK26 _ _ _ _ _ _ _ _ hz_r4 I (lv_sub hl [2, 1, 0] rfl) h
def PX4_read_L26 (v_t : OV)  (post : Int32 → OV → OV → OV → Prop) : Nat → Int32 → Int32 → OV → OV → OV → Prop
  | 0, _, _, _, _, _ => False
  | n + 1, y3, y4, v_q, v_r, v_u => ((((12 : Int32)) < y4 → post (v_r.1 3) v_q v_r v_u) ∧ (¬ ((12 : Int32)) < y4 → ((y3 = ((0 : Int32)) → post (v_r.1 3) v_q v_r v_u) ∧ (¬ y3 = ((0 : Int32)) → (PX4_beginClause v_q v_r v_u v_t y4 (fun v_r3 => (PX4_readSum v_q v_r3 v_u v_t (fun v_q5 v_r6 v_u7 => (PX3_beginTest v_u7 (fun v_u9 => (PX2_takeWord v_r6 v_t 1 (fun r12 v_r11 => ((r12 = ((0 : Int32)) → PX4_read_b71 v_t (PX4_read_L26 v_t post n) post y4 v_q5 v_r11 v_u9) ∧ (¬ r12 = ((0 : Int32)) → (PX4_readTest v_q5 v_r11 v_u9 v_t ((0 : Int32)) (fun v_q15 v_r16 v_u17 => PX4_read_b71 v_t (PX4_read_L26 v_t post n) post y4 v_q15 v_r16 v_u17))))))))))))))))
set_option maxRecDepth 100000 in
set_option maxHeartbeats 1000000 in
theorem wX4_read_L26 {v_t : OV}  {post : Int32 → OV → OV → OV → Prop} {ad_q : Nat → Nat} {ad_r : Nat → Nat} {ad_u : Nat → Nat} {ad_t : Nat → Nat} (X : kn_X p s m args meth c cX4_read 5 (some .int) RX4 kn_all D tc Z (kn_A w0 s.heap.size)) (e_q_0 : ad_q (0 + 1) = ad_r 0) (e_q_1 : ad_q (1 + 1) = ad_u 0) (e_r_0 : ad_r (0 + 1) = ad_t (0 + 1))   : ∀ n : Nat, ∀ (H : Heap) (locs : List Loc) (ls : Array Slot) (y3 : Int32) (y4 : Int32) (v_q : OV) (v_r : OV) (v_u : OV), (hz_y3 : y3 = 0 ∨ y3 = 1) → kn_I D tc (kn_A w0 s.heap.size) s.heap [(kRuleReader, ad_q, v_q), (kReader, ad_r, v_r), (kRule, ad_u, v_u), (kTin, ad_t, v_t)] H locs → lv_has ls 5 [(0, .ref (ad_q 0)), (3, .int y3), (4, .int y4)] → PX4_read_L26 v_t post n y3 y4 v_q v_r v_u → W p l e rmX4_read s m args below meth c H locs 0 0 (kn_Qi D tc w0 (fun (u : OV × OV × OV) => [(kRuleReader, ad_q, u.1), (kReader, ad_r, u.2.1), (kRule, ad_u, u.2.2), (kTin, ad_t, v_t)]) (fun (r : Int32) (u : OV × OV × OV) => post r u.1 u.2.1 u.2.2) below args s 0 0) (F0 m 26 ls []) := by
  obtain ⟨S0, hr, hlocks, hK, hZ, hA⟩ := id X
  obtain ⟨hx, hb, hml, hown, hts⟩ := id S0
  intro n
  induction n with
  | zero =>
    intro H locs ls y3 y4 v_q v_r v_u hz_y3 I hl h
    unfold PX4_read_L26 at h
    exact h.elim
  | succ n ih =>
    intro H locs ls y3 y4 v_q v_r v_u hz_y3 I hl h
    unfold PX4_read_L26 at h
    refine lv_iload hx hb (kn_dec tX4_read 15 rfl) (lv_at hl 2 rfl) ?_
    refine lv_bipush (v := (12)) hx hb (kn_dec tX4_read 16 rfl) (by decide) ?_
    refine lv_icmp_gt (tgt := 92) hx hb (kn_dec tX4_read 17 rfl) (by decide) (fun c1 => ?_) (fun c1 => ?_)
    · have h := h.1 c1
      refine lv_aload_n hx hb (kn_dec tX4_read 45 rfl) rfl (lv_at hl 0 rfl) ?_
      refine kw_getl hx hb hts inX4 hown hK I 0 rfl rfl 0 (by decide) rfl (hts _ q1_94) (kn_dec tX4_read 46 rfl) e_q_0 ?_
      refine kw_geti hx hb hts inX2 hown hK I 1 rfl rfl 3 (by decide) rfl (hts _ q1_45) (kn_dec tX4_read 47 rfl) ?_
      exact kw_iret hx hb hr hlocks I (v_q, v_r, v_u) rfl h (kn_dec tX4_read 48 rfl)
    · have h := h.2 c1
      refine lv_iload_n hx hb (kn_dec tX4_read 18 rfl) rfl (lv_at hl 1 rfl) ?_
      refine lv_if_eq (tgt := 92) hx hb (kn_dec tX4_read 19 rfl) (by decide) (fun c2 => ?_) (fun c2 => ?_)
      · have h := h.1 c2
        refine lv_aload_n hx hb (kn_dec tX4_read 45 rfl) rfl (lv_at hl 0 rfl) ?_
        refine kw_getl hx hb hts inX4 hown hK I 0 rfl rfl 0 (by decide) rfl (hts _ q1_94) (kn_dec tX4_read 46 rfl) e_q_0 ?_
        refine kw_geti hx hb hts inX2 hown hK I 1 rfl rfl 3 (by decide) rfl (hts _ q1_45) (kn_dec tX4_read 47 rfl) ?_
        exact kw_iret hx hb hr hlocks I (v_q, v_r, v_u) rfl h (kn_dec tX4_read 48 rfl)
      · have h := h.2 c2
        refine lv_aload_n hx hb (kn_dec tX4_read 20 rfl) rfl (lv_at hl 0 rfl) ?_
        refine lv_iload hx hb (kn_dec tX4_read 21 rfl) (lv_at hl 2 rfl) ?_
        refine kw_callv (wc := [(kRuleReader, ad_q, _), (kReader, ad_r, _), (kRule, ad_u, _), (kTin, ad_t, _)]) (wr := []) I hA [0, 1, 2, 3] [] rfl rfl (by decide) (by decide) (kn_runV (As := [.int _]) S0 hK hZ hA I ((ctX4_beginClause e_r_0 e_q_0 e_q_1 h).met _) (kn_cwV 1 hts q3_56 q3_58 q0_5 q1_4 q3_59 rfl rfl (by decide +kernel) ⟨(Nat.le_of_ble_eq_true rfl), (Nat.le_of_ble_eq_true rfl)⟩) [0, 1, 2, 3] rfl (by decide) 0 rfl rfl rfl rfl hl.1 rfl (Nat.le_of_ble_eq_true rfl) (kn_dec tX4_read 22 rfl) ⟨(Nat.le_of_ble_eq_true rfl), (Nat.le_of_ble_eq_true rfl)⟩) (fun u4 H locs h I => ?_)
        have I : kn_I D tc (kn_A w0 s.heap.size) s.heap [(kRuleReader, ad_q, _), (kReader, ad_r, _), (kRule, ad_u, _), (kTin, ad_t, _)] _ _ := I
        refine lv_aload_n hx hb (kn_dec tX4_read 23 rfl) rfl (lv_at hl 0 rfl) ?_
        refine kw_callv (wc := [(kRuleReader, ad_q, _), (kReader, ad_r, _), (kRule, ad_u, _), (kTin, ad_t, _)]) (wr := []) I hA [0, 1, 2, 3] [] rfl rfl (by decide) (by decide) (kn_runV (As := []) S0 hK hZ hA I ((ctX4_readSum e_r_0 e_q_0 e_q_1 h).met _) (kn_cwV 0 hts q3_68 q3_70 q0_6 q1_4 q3_71 rfl rfl (by decide +kernel) ⟨(Nat.le_of_ble_eq_true rfl), (Nat.le_of_ble_eq_true rfl)⟩) [0, 1, 2, 3] rfl (by decide) 0 rfl rfl rfl rfl hl.1 rfl (Nat.le_of_ble_eq_true rfl) (kn_dec tX4_read 24 rfl) ⟨(Nat.le_of_ble_eq_true rfl), (Nat.le_of_ble_eq_true rfl)⟩) (fun u8 H locs h I => ?_)
        have I : kn_I D tc (kn_A w0 s.heap.size) s.heap [(kRuleReader, ad_q, _), (kReader, ad_r, _), (kRule, ad_u, _), (kTin, ad_t, _)] _ _ := I
        refine lv_aload_n hx hb (kn_dec tX4_read 25 rfl) rfl (lv_at hl 0 rfl) ?_
        refine kw_getl hx hb hts inX4 hown hK I 0 rfl rfl 1 (by decide) rfl (hts _ q1_95) (kn_dec tX4_read 26 rfl) e_q_1 ?_
        refine kw_callv (wc := [(kRule, ad_u, _)]) (wr := [(kRuleReader, ad_q, _), (kReader, ad_r, _), (kTin, ad_t, _)]) I hA [2] [0, 1, 3] rfl rfl (by decide) (by decide) (kn_runV (As := []) S0 hK hZ hA I ((ctX3_beginTest h).met _) (kn_cwV 0 hts q3_97 q3_98 q3_99 q1_5 q3_100 rfl rfl (by decide +kernel) ⟨(Nat.le_of_ble_eq_true rfl), (Nat.le_of_ble_eq_true rfl)⟩) [2] rfl (by decide) 2 rfl rfl rfl rfl hl.1 rfl (Nat.le_of_ble_eq_true rfl) (kn_dec tX4_read 27 rfl) ⟨(Nat.le_of_ble_eq_true rfl), (Nat.le_of_ble_eq_true rfl)⟩) (fun u10 H locs h I => ?_)
        have I : kn_I D tc (kn_A w0 s.heap.size) s.heap [(kRuleReader, ad_q, _), (kReader, ad_r, _), (kRule, ad_u, _), (kTin, ad_t, _)] _ _ := I.sub [0, 1, 3, 2] (by decide) rfl
        refine lv_aload_n hx hb (kn_dec tX4_read 28 rfl) rfl (lv_at hl 0 rfl) ?_
        refine kw_getl hx hb hts inX4 hown hK I 0 rfl rfl 0 (by decide) rfl (hts _ q1_94) (kn_dec tX4_read 29 rfl) e_q_0 ?_
        refine va_ldcS hx hb hown (hZ.1 1 _ rfl).1 (kn_dec tX4_read 30 rfl) ?_
        refine kw_calli (wc := [(kReader, ad_r, _), (kTin, ad_t, _)]) (wr := [(kRuleReader, ad_q, _), (kRule, ad_u, _)]) I hA [1, 3] [0, 2] rfl rfl (by decide) (by decide) (kn_runV (As := [.ref (Z.1 1)]) S0 hK hZ hA I ((ctX2_takeWord e_r_0 h).met _) (kn_cwV 1 hts q3_63 q3_64 q3_65 q1_3 q3_66 rfl rfl (by decide +kernel) ⟨(Nat.le_of_ble_eq_true rfl), (Nat.le_of_ble_eq_true rfl)⟩) [1, 3] rfl (by decide) 1 rfl rfl rfl rfl hl.1 rfl (Nat.le_of_ble_eq_true rfl) (kn_dec tX4_read 31 rfl) ⟨(Nat.le_of_ble_eq_true rfl), (Nat.le_of_ble_eq_true rfl)⟩) (fun r12 u13 H locs h I => ?_)
        obtain ⟨hz_r12, h⟩ := h
        have I : kn_I D tc (kn_A w0 s.heap.size) s.heap [(kRuleReader, ad_q, _), (kReader, ad_r, _), (kRule, ad_u, _), (kTin, ad_t, _)] _ _ := I.sub [0, 2, 1, 3] (by decide) rfl
        refine lv_if_eq (tgt := 71) hx hb (kn_dec tX4_read 32 rfl) (by decide) (fun c14 => ?_) (fun c14 => ?_)
        · have h := h.1 c14
          exact wX4_read_b71 X e_q_0 e_q_1 e_r_0 ih _ _ _ _ _ _ _  I (lv_sub hl [0, 2] rfl) h
        · have h := h.2 c14
          refine lv_aload_n hx hb (kn_dec tX4_read 33 rfl) rfl (lv_at hl 0 rfl) ?_
          refine lv_iconst (v := (0)) hx hb (kn_dec tX4_read 34 rfl) (by decide) ?_
          refine kw_callv (wc := [(kRuleReader, ad_q, _), (kReader, ad_r, _), (kRule, ad_u, _), (kTin, ad_t, _)]) (wr := []) I hA [0, 1, 2, 3] [] rfl rfl (by decide) (by decide) (kn_runV (As := [.int _]) S0 hK hZ hA I ((ctX4_readTest e_r_0 e_q_0 e_q_1 h).met _) (kn_cwV 1 hts q3_102 q3_104 q0_9 q1_4 q3_105 rfl rfl (by decide +kernel) ⟨(Nat.le_of_ble_eq_true rfl), (Nat.le_of_ble_eq_true rfl)⟩) [0, 1, 2, 3] rfl (by decide) 0 rfl rfl rfl rfl hl.1 rfl (Nat.le_of_ble_eq_true rfl) (kn_dec tX4_read 35 rfl) ⟨(Nat.le_of_ble_eq_true rfl), (Nat.le_of_ble_eq_true rfl)⟩) (fun u18 H locs h I => ?_)
          have I : kn_I D tc (kn_A w0 s.heap.size) s.heap [(kRuleReader, ad_q, _), (kReader, ad_r, _), (kRule, ad_u, _), (kTin, ad_t, _)] _ _ := I
          exact wX4_read_b71 X e_q_0 e_q_1 e_r_0 ih _ _ _ _ _ _ _  I (lv_sub hl [0, 2] rfl) h
def PX4_read  (v_q : OV) (v_r : OV) (v_u : OV) (v_t : OV) (a2 : Int32) (post : Int32 → OV → OV → OV → Prop) : Prop := (PX2_open v_r v_t a2 (fun v_r1 => (PX3_clear v_u (fun v_u3 => (∀ v_q5 : OV, v_q5 = si v_q 2 ((0 : Int32)) → (∃ n6 : Nat, PX4_read_L26 v_t post n6 ((1 : Int32)) ((0 : Int32)) v_q5 v_r1 v_u3))))))
set_option maxRecDepth 100000 in
set_option maxHeartbeats 1000000 in
theorem ctX4_read {l : Launch} {D : va_G} {tc : Nat → ClassId} {Z : (Nat → Nat) × (Nat → Nat)}  {ad_q : Nat → Nat} {ad_r : Nat → Nat} {ad_u : Nat → Nat} {ad_t : Nat → Nat} {v_q : OV} {v_r : OV} {v_u : OV} {v_t : OV} {a2 : Int32} (e_q_0 : ad_q (0 + 1) = ad_r 0) (e_q_1 : ad_q (1 + 1) = ad_u 0)   {post : Int32 → OV → OV → OV → Prop} (h : PX4_read  v_q v_r v_u v_t a2 post) : CTi l D tc Z yX4_read (Cond.code yX4_read cX4_read 5 (some .int) :: kn_all) rmX4_read 0 0 [.ref (ad_q 0), .ref (ad_t (0 + 1)), .int a2] [(kRuleReader, ad_q, v_q), (kReader, ad_r, v_r), (kRule, ad_u, v_u), (kTin, ad_t, v_t)] (fun (u : OV × OV × OV) => [(kRuleReader, ad_q, u.1), (kReader, (kn_up ad_r 0 (ad_t (0 + 1))), u.2.1), (kRule, ad_u, u.2.2), (kTin, ad_t, v_t)]) (fun (r : Int32) (u : OV × OV × OV) => post r u.1 u.2.1 u.2.2) := by
  refine kn_ofi (cc := cX4_read) (nL := 5) (ret := (some .int)) (lv := [(0, .ref (ad_q 0)), (1, .ref (ad_t (0 + 1))), (2, .int a2)]) (by decide) (Nat.le_of_ble_eq_true rfl) rfl (fun p e s m below meth c ls X I hl _ => ?_)
  obtain ⟨S0, hr, hlocks, hK, hZ, hA⟩ := id X
  obtain ⟨hx, hb, hml, hown, hts⟩ := id S0
  unfold PX4_read at h
  refine lv_aload_n hx hb (kn_dec tX4_read 0 rfl) rfl (lv_at hl 0 rfl) ?_
  refine kw_getl hx hb hts inX4 hown hK I 0 rfl rfl 0 (by decide) rfl (hts _ q1_94) (kn_dec tX4_read 1 rfl) e_q_0 ?_
  refine lv_aload_n hx hb (kn_dec tX4_read 2 rfl) rfl (lv_at hl 1 rfl) ?_
  refine lv_iload_n hx hb (kn_dec tX4_read 3 rfl) rfl (lv_at hl 2 rfl) ?_
  have I : kn_I D tc (kn_A _ s.heap.size) s.heap ([(kReader, ad_r, _), (kTin, ad_t, _)] ++ (List.flatten [[(kRuleReader, ad_q, _)], [(kRule, ad_u, _)]])) _ _ := I.perm (kn_segA (segs := [[(kRuleReader, ad_q, _)], [(kReader, ad_r, _)], [(kRule, ad_u, _)], [(kTin, ad_t, _)]]) (sC := [[(kReader, ad_r, _)], [(kTin, ad_t, _)]]) (sR := [[(kRuleReader, ad_q, _)], [(kRule, ad_u, _)]]) [1, 3, 0, 2] rfl rfl)
  refine kw_callv (wc := [(kReader, ad_r, _), (kTin, ad_t, _)]) (wr := (List.flatten [[(kRuleReader, ad_q, _)], [(kRule, ad_u, _)]])) I hA (kn_pl1 _ _) (kn_pl2 _ _) (kn_pl1_ok _ _) (kn_pl2_ok _ _) (kn_pl2_nd _ _) (kn_pl_dis _ _) (kn_runV (As := [.ref (ad_t (0 + 1)), .int _]) S0 hK hZ hA I ((ctX2_open h).met _) (kn_cwV 2 hts q3_51 q2_159 q2_160 q1_3 q2_161 rfl rfl (by decide +kernel) ⟨(Nat.le_of_ble_eq_true rfl), (Nat.le_of_ble_eq_true rfl)⟩) (kn_pl1 _ _) (kn_pl1_ok _ _) (kn_pl1_nd _ _) 0 rfl rfl rfl rfl hl.1 rfl (Nat.le_of_ble_eq_true rfl) (kn_dec tX4_read 4 rfl) ⟨(Nat.le_of_ble_eq_true rfl), (Nat.le_of_ble_eq_true rfl)⟩) (fun u2 H locs h I => ?_)
  have I : kn_I D tc (kn_A _ s.heap.size) s.heap (List.flatten [[(kRuleReader, ad_q, _)], [(kReader, (kn_up ad_r 0 (ad_t (0 + 1))), _)], [(kRule, ad_u, _)], [(kTin, ad_t, _)]]) _ _ := I.perm (kn_segB (sC := [[(kRuleReader, ad_q, _)], [(kRule, ad_u, _)]]) (sR := [[(kReader, (kn_up ad_r 0 (ad_t (0 + 1))), _)], [(kTin, ad_t, _)]]) (segs := [[(kRuleReader, ad_q, _)], [(kReader, (kn_up ad_r 0 (ad_t (0 + 1))), _)], [(kRule, ad_u, _)], [(kTin, ad_t, _)]]) [0, 2, 1, 3] rfl rfl)
  have I : kn_I D tc (kn_A _ s.heap.size) s.heap [(kRuleReader, ad_q, _), (kReader, (kn_up ad_r 0 (ad_t (0 + 1))), _), (kRule, ad_u, _), (kTin, ad_t, _)] _ _ := I
  refine lv_aload_n hx hb (kn_dec tX4_read 5 rfl) rfl (lv_at hl 0 rfl) ?_
  refine kw_getl hx hb hts inX4 hown hK I 0 rfl rfl 1 (by decide) rfl (hts _ q1_95) (kn_dec tX4_read 6 rfl) e_q_1 ?_
  refine kw_callv (wc := [(kRule, ad_u, _)]) (wr := [(kRuleReader, ad_q, _), (kReader, (kn_up ad_r 0 (ad_t (0 + 1))), _), (kTin, ad_t, _)]) I hA [2] [0, 1, 3] rfl rfl (by decide) (by decide) (kn_runV (As := []) S0 hK hZ hA I ((ctX3_clear h).met _) (kn_cwV 0 hts q3_52 q3_53 q3_54 q1_5 q3_55 rfl rfl (by decide +kernel) ⟨(Nat.le_of_ble_eq_true rfl), (Nat.le_of_ble_eq_true rfl)⟩) [2] rfl (by decide) 2 rfl rfl rfl rfl hl.1 rfl (Nat.le_of_ble_eq_true rfl) (kn_dec tX4_read 7 rfl) ⟨(Nat.le_of_ble_eq_true rfl), (Nat.le_of_ble_eq_true rfl)⟩) (fun u4 H locs h I => ?_)
  have I : kn_I D tc (kn_A _ s.heap.size) s.heap [(kRuleReader, ad_q, _), (kReader, (kn_up ad_r 0 (ad_t (0 + 1))), _), (kRule, ad_u, _), (kTin, ad_t, _)] _ _ := I.sub [0, 1, 3, 2] (by decide) rfl
  refine lv_aload_n hx hb (kn_dec tX4_read 8 rfl) rfl (lv_at hl 0 rfl) ?_
  refine lv_iconst (v := (0)) hx hb (kn_dec tX4_read 9 rfl) (by decide) ?_
  refine kw_puti hx hb hts inX4 tyX4 tyX4_ok nmX4 hown hK I 0 rfl rfl 2 (by decide) rfl (hts _ q1_96) rfl rfl rfl (kn_dec tX4_read 10 rfl) (fun v_q5 ev_q5 H locs I => ?_)
  have h := h v_q5 ev_q5
  have I : kn_I D tc (kn_A _ s.heap.size) s.heap [(kRuleReader, ad_q, _), (kReader, (kn_up ad_r 0 (ad_t (0 + 1))), _), (kRule, ad_u, _), (kTin, ad_t, _)] _ _ := I
  refine lv_iconst (v := (1)) hx hb (kn_dec tX4_read 11 rfl) (by decide) ?_
  refine lv_istore_n (lv' := [(3, .int _), (0, .ref (ad_q 0)), (1, .ref (ad_t (0 + 1))), (2, .int _)]) hx hb (kn_dec tX4_read 12 rfl) rfl hl (by decide) rfl (fun ls hl => ?_)
  refine lv_iconst (v := (0)) hx hb (kn_dec tX4_read 13 rfl) (by decide) ?_
  refine lv_istore (lv' := [(4, .int _), (3, .int _), (0, .ref (ad_q 0)), (1, .ref (ad_t (0 + 1))), (2, .int _)]) hx hb (kn_dec tX4_read 14 rfl) hl (by decide) rfl (fun ls hl => ?_)
  obtain ⟨n6, h⟩ := h
  exact wX4_read_L26 X (e_q_0.trans kn_up_0.symm) e_q_1 kn_up_s n6 _ _ _ _ _ _ _ _ (Or.inr rfl) I (lv_sub hl [2, 1, 0] rfl) h

end
