section
variable {p : Program} {l : Launch} {e : Env} {s : State} {m : MethodId} {args : Array Value} {below : List Frame} {meth : Method} {c : Code} {D : va_G} {tc : Nat → ClassId} {Z : (Nat → Nat) × (Nat → Nat)} {w0 : List CH}

/-! X7_pass_N -/
abbrev rmX7_pass_N : Room := { frames := 5, cells := 0, slots := 0, locals := 141 }
def PX7_pass_N_b141 (v_h : OV)  (post : Int32 → OV → OV → Prop) (y5 : Int32) (v_w : OV) (v_s : OV) : Prop := (∀ x1 : Int32, x1 = ((v_s.1 0) + ((1 : Int32))) → (∀ v_s2 : OV, v_s2 = si v_s 0 x1 → post y5 v_w v_s2))
set_option maxRecDepth 100000 in
set_option maxHeartbeats 1000000 in
theorem wX7_pass_N_b141 {v_h : OV}  {post : Int32 → OV → OV → Prop} {ad_w : Nat → Nat} {ad_h : Nat → Nat} {ad_s : Nat → Nat} (X : kn_X p s m args meth c cX7_pass 7 (some .int) RX7 kn_all D tc Z (kn_A w0 s.heap.size))    : ∀ (H : Heap) (locs : List Loc) (ls : Array Slot) (y5 : Int32) (v_w : OV) (v_s : OV), kn_I D tc (kn_A w0 s.heap.size) s.heap [(kWalk, ad_w, v_w), (kHill, ad_h, v_h), (kState, ad_s, v_s)] H locs → lv_has ls 7 [(3, .ref (ad_s 0)), (5, .int y5)] → PX7_pass_N_b141 v_h post y5 v_w v_s → W p l e rmX7_pass_N s m args below meth c H locs 0 0 (kn_Qi D tc w0 (fun (u : OV × OV) => [(kWalk, ad_w, u.1), (kHill, ad_h, v_h), (kState, ad_s, u.2)]) (fun (r : Int32) (u : OV × OV) => post r u.1 u.2) below args s 0 0) (F0 m 141 ls []) := by
  obtain ⟨S0, hr, hlocks, hK, hZ, hA⟩ := id X
  obtain ⟨hx, hb, hml, hown, hts⟩ := id S0
  intro H locs ls y5 v_w v_s I hl h
  unfold PX7_pass_N_b141 at h
  refine lv_aload_n hx hb (kn_dec tX7_pass 74 rfl) rfl (lv_at hl 0 rfl) ?_
  refine lv_dup hx hb (kn_dec tX7_pass 75 rfl) rfl ?_
  refine kw_geti hx hb hts inX6 hown hK I 2 rfl rfl 0 (by decide) rfl (hts _ q1_220) (kn_dec tX7_pass 76 rfl) ?_
  refine lv_iconst (v := (1)) hx hb (kn_dec tX7_pass 77 rfl) (by decide) ?_
  refine lv_iadd hx hb (kn_dec tX7_pass 78 rfl) ?_
  refine lv_topi (fun x1 ex1 => ?_)
  have h := h x1 ex1
  refine kw_puti hx hb hts inX6 tyX6 tyX6_ok nmX6 hown hK I 2 rfl rfl 0 (by decide) rfl (hts _ q1_220) rfl rfl rfl (kn_dec tX7_pass 79 rfl) (fun v_s2 ev_s2 H locs I => ?_)
  have h := h v_s2 ev_s2
  have I : kn_I D tc (kn_A w0 s.heap.size) s.heap [(kWalk, ad_w, _), (kHill, ad_h, _), (kState, ad_s, _)] _ _ := I
  refine lv_iload hx hb (kn_dec tX7_pass 80 rfl) (lv_at hl 1 rfl) ?_
  exact kw_iret hx hb hr hlocks I (v_w, v_s2) rfl h (kn_dec tX7_pass 81 rfl)
def PX7_pass_N_b128 (v_h : OV)  (post : Int32 → OV → OV → Prop) (y5 : Int32) (v_w : OV) (v_s : OV) : Prop := (PX7_isSeen v_h v_s (fun r1 => ((r1 = ((0 : Int32)) → PX7_pass_N_b141 v_h post y5 v_w v_s) ∧ (¬ r1 = ((0 : Int32)) → (∀ v_s4 : OV, v_s4 = si v_s 2 ((-1 : Int32)) → PX7_pass_N_b141 v_h post y5 v_w v_s4)))))
set_option maxRecDepth 100000 in
set_option maxHeartbeats 1000000 in
theorem wX7_pass_N_b128 {v_h : OV}  {post : Int32 → OV → OV → Prop} {ad_w : Nat → Nat} {ad_h : Nat → Nat} {ad_s : Nat → Nat} (X : kn_X p s m args meth c cX7_pass 7 (some .int) RX7 kn_all D tc Z (kn_A w0 s.heap.size))    : ∀ (H : Heap) (locs : List Loc) (ls : Array Slot) (y5 : Int32) (v_w : OV) (v_s : OV), kn_I D tc (kn_A w0 s.heap.size) s.heap [(kWalk, ad_w, v_w), (kHill, ad_h, v_h), (kState, ad_s, v_s)] H locs → lv_has ls 7 [(1, .ref (ad_h 0)), (3, .ref (ad_s 0)), (5, .int y5)] → PX7_pass_N_b128 v_h post y5 v_w v_s → W p l e rmX7_pass_N s m args below meth c H locs 0 0 (kn_Qi D tc w0 (fun (u : OV × OV) => [(kWalk, ad_w, u.1), (kHill, ad_h, v_h), (kState, ad_s, u.2)]) (fun (r : Int32) (u : OV × OV) => post r u.1 u.2) below args s 0 0) (F0 m 128 ls []) := by
  obtain ⟨S0, hr, hlocks, hK, hZ, hA⟩ := id X
  obtain ⟨hx, hb, hml, hown, hts⟩ := id S0
  intro H locs ls y5 v_w v_s I hl h
  unfold PX7_pass_N_b128 at h
  refine lv_aload_n hx hb (kn_dec tX7_pass 67 rfl) rfl (lv_at hl 0 rfl) ?_
  refine lv_aload_n hx hb (kn_dec tX7_pass 68 rfl) rfl (lv_at hl 1 rfl) ?_
  refine kw_calli (wc := [(kHill, ad_h, _), (kState, ad_s, _)]) (wr := [(kWalk, ad_w, _)]) I hA [1, 2] [0] rfl rfl (by decide) (by decide) (kn_runS (As := [.ref (ad_h 0), .ref (ad_s 0)]) S0 hK hZ hA I ((ctX7_isSeen h).met _) (kn_cwS 2 hts q4_13 q4_14 q1_9 q4_15 rfl rfl (by decide +kernel) ⟨(Nat.le_of_ble_eq_true rfl), (Nat.le_of_ble_eq_true rfl)⟩) [1, 2] rfl (by decide) rfl hl.1 rfl (Nat.le_of_ble_eq_true rfl) (kn_dec tX7_pass 69 rfl) ⟨(Nat.le_of_ble_eq_true rfl), (Nat.le_of_ble_eq_true rfl)⟩) (fun r1 u2 H locs h I => ?_)
  obtain ⟨hz_r1, h⟩ := h
  have I : kn_I D tc (kn_A w0 s.heap.size) s.heap [(kWalk, ad_w, _), (kHill, ad_h, _), (kState, ad_s, _)] _ _ := I
  refine lv_if_eq (tgt := 141) hx hb (kn_dec tX7_pass 70 rfl) (by decide) (fun c3 => ?_) (fun c3 => ?_)
  · have h := h.1 c3
    exact wX7_pass_N_b141 X _ _ _ _ _ _  I (lv_sub hl [1, 2] rfl) h
  · have h := h.2 c3
    refine lv_aload_n hx hb (kn_dec tX7_pass 71 rfl) rfl (lv_at hl 1 rfl) ?_
    refine lv_iconst (v := (-1)) hx hb (kn_dec tX7_pass 72 rfl) (by decide) ?_
    refine kw_puti hx hb hts inX6 tyX6 tyX6_ok nmX6 hown hK I 2 rfl rfl 2 (by decide) rfl (hts _ q1_226) rfl rfl rfl (kn_dec tX7_pass 73 rfl) (fun v_s4 ev_s4 H locs I => ?_)
    have h := h v_s4 ev_s4
    have I : kn_I D tc (kn_A w0 s.heap.size) s.heap [(kWalk, ad_w, _), (kHill, ad_h, _), (kState, ad_s, _)] _ _ := I
    exact wX7_pass_N_b141 X _ _ _ _ _ _  I (lv_sub hl [1, 2] rfl) h
def PX7_pass_N_L6 (v_h : OV)  (post : Int32 → OV → OV → Prop) : Nat → Int32 → Int32 → Int32 → OV → OV → Prop
  | 0, _, _, _, _, _ => False
  | n + 1, y4, y5, y6, v_w, v_s => (((v_h.1 11) ≤ y6 → ((¬ y4 = ((0 : Int32)) → PX7_pass_N_b128 v_h post y5 v_w v_s) ∧ (y4 = ((0 : Int32)) → (PX0_walkersCome v_h (v_s.1 0) (fun r3 => ((r3 = ((0 : Int32)) → PX7_pass_N_b141 v_h post y5 v_w v_s) ∧ (¬ r3 = ((0 : Int32)) → PX7_pass_N_b128 v_h post y5 v_w v_s))))))) ∧ (¬ (v_h.1 11) ≤ y6 → (vp_in y6 4 ∧ ((¬ (v_s.2.1 6 y6.toNatClampNeg) = ((-1 : Int32)) → (∀ x8 : Int32, x8 = y6 + (1 : Int32) → PX7_pass_N_L6 v_h post n y4 y5 x8 v_w v_s)) ∧ ((v_s.2.1 6 y6.toNatClampNeg) = ((-1 : Int32)) → (PX7_look_N v_w v_h v_s y6 (fun v_w9 => (PX7_leaveTraces v_w9 v_s y6 (fun v_s11 => (((v_w9.1 5) = ((0 : Int32)) → (vp_in y6 4 ∧ (∀ x15 : Int32, x15 = (if ((v_s11.2.1 7 y6.toNatClampNeg) + ((1 : Int32))) < ((99 : Int32)) then ((v_s11.2.1 7 y6.toNatClampNeg) + ((1 : Int32))) else ((99 : Int32))) → (vp_in y6 4 ∧ (∀ v_s17 : OV, v_s17 = sa v_s11 7 (upd (v_s11.2.1 7) y6.toNatClampNeg x15) → (∀ x18 : Int32, x18 = y6 + (1 : Int32) → PX7_pass_N_L6 v_h post n y4 y5 x18 v_w9 v_s17)))))) ∧ (¬ (v_w9.1 5) = ((0 : Int32)) → (∀ x19 : Int32, x19 = y5 + (1 : Int32) → (∀ x20 : Int32, x20 = (v_s11.1 0) → (vp_in y6 4 ∧ (∀ v_s22 : OV, v_s22 = sa v_s11 6 (upd (v_s11.2.1 6) y6.toNatClampNeg x20) → (PX7_swap v_h v_s22 y6 (fun v_s23 => (vp_in y6 4 ∧ (PX7_putBack v_h v_s23 (v_h.2.1 15 y6.toNatClampNeg) (fun v_s26 => (∀ x28 : Int32, x28 = y6 + (1 : Int32) → PX7_pass_N_L6 v_h post n y4 x19 x28 v_w9 v_s26)))))))))))))))))))))
set_option maxRecDepth 100000 in
set_option maxHeartbeats 1000000 in
theorem wX7_pass_N_L6 {v_h : OV}  {post : Int32 → OV → OV → Prop} {ad_w : Nat → Nat} {ad_h : Nat → Nat} {ad_s : Nat → Nat} (X : kn_X p s m args meth c cX7_pass 7 (some .int) RX7 kn_all D tc Z (kn_A w0 s.heap.size))    : ∀ n : Nat, ∀ (H : Heap) (locs : List Loc) (ls : Array Slot) (y4 : Int32) (y5 : Int32) (y6 : Int32) (v_w : OV) (v_s : OV), (hz_y4 : y4 = 0 ∨ y4 = 1) → kn_I D tc (kn_A w0 s.heap.size) s.heap [(kWalk, ad_w, v_w), (kHill, ad_h, v_h), (kState, ad_s, v_s)] H locs → lv_has ls 7 [(0, .ref (ad_w 0)), (1, .ref (ad_h 0)), (2, .null), (3, .ref (ad_s 0)), (4, .int y4), (5, .int y5), (6, .int y6)] → PX7_pass_N_L6 v_h post n y4 y5 y6 v_w v_s → W p l e rmX7_pass_N s m args below meth c H locs 0 0 (kn_Qi D tc w0 (fun (u : OV × OV) => [(kWalk, ad_w, u.1), (kHill, ad_h, v_h), (kState, ad_s, u.2)]) (fun (r : Int32) (u : OV × OV) => post r u.1 u.2) below args s 0 0) (F0 m 6 ls []) := by
  obtain ⟨S0, hr, hlocks, hK, hZ, hA⟩ := id X
  obtain ⟨hx, hb, hml, hown, hts⟩ := id S0
  intro n
  induction n with
  | zero =>
    intro H locs ls y4 y5 y6 v_w v_s hz_y4 I hl h
    unfold PX7_pass_N_L6 at h
    exact h.elim
  | succ n ih =>
    intro H locs ls y4 y5 y6 v_w v_s hz_y4 I hl h
    unfold PX7_pass_N_L6 at h
    refine lv_iload hx hb (kn_dec tX7_pass 4 rfl) (lv_at hl 6 rfl) ?_
    refine lv_aload_n hx hb (kn_dec tX7_pass 5 rfl) rfl (lv_at hl 1 rfl) ?_
    refine kw_geti hx hb hts inX0 hown hK I 1 rfl rfl 11 (by decide) rfl (hts _ q1_154) (kn_dec tX7_pass 6 rfl) ?_
    refine lv_icmp_ge (tgt := 112) hx hb (kn_dec tX7_pass 7 rfl) (by decide) (fun c1 => ?_) (fun c1 => ?_)
    · have h := h.1 c1
      refine lv_iload hx hb (kn_dec tX7_pass 60 rfl) (lv_at hl 4 rfl) ?_
      refine lv_if_ne (tgt := 128) hx hb (kn_dec tX7_pass 61 rfl) (by decide) (fun c2 => ?_) (fun c2 => ?_)
      · have h := h.1 c2
        exact wX7_pass_N_b128 X _ _ _ _ _ _  I (lv_sub hl [1, 3, 5] rfl) h
      · have h := h.2 c2
        refine lv_aload_n hx hb (kn_dec tX7_pass 62 rfl) rfl (lv_at hl 1 rfl) ?_
        refine lv_aload_n hx hb (kn_dec tX7_pass 63 rfl) rfl (lv_at hl 3 rfl) ?_
        refine kw_geti hx hb hts inX6 hown hK I 2 rfl rfl 0 (by decide) rfl (hts _ q1_220) (kn_dec tX7_pass 64 rfl) ?_
        refine kw_calli (wc := [(kHill, ad_h, _)]) (wr := [(kWalk, ad_w, _), (kState, ad_s, _)]) I hA [1] [0, 2] rfl rfl (by decide) (by decide) (kn_runV (As := [.int _]) S0 hK hZ hA I ((ctX0_walkersCome h).met _) (kn_cwV 1 hts q4_9 q4_10 q4_11 q1_7 q4_12 rfl rfl (by decide +kernel) ⟨(Nat.le_of_ble_eq_true rfl), (Nat.le_of_ble_eq_true rfl)⟩) [1] rfl (by decide) 1 rfl rfl rfl rfl hl.1 rfl (Nat.le_of_ble_eq_true rfl) (kn_dec tX7_pass 65 rfl) ⟨(Nat.le_of_ble_eq_true rfl), (Nat.le_of_ble_eq_true rfl)⟩) (fun r3 u4 H locs h I => ?_)
        obtain ⟨hz_r3, h⟩ := h
        have I : kn_I D tc (kn_A w0 s.heap.size) s.heap [(kWalk, ad_w, _), (kHill, ad_h, _), (kState, ad_s, _)] _ _ := I.sub [0, 2, 1] (by decide) rfl
        refine lv_if_eq (tgt := 141) hx hb (kn_dec tX7_pass 66 rfl) (by decide) (fun c5 => ?_) (fun c5 => ?_)
        · have h := h.1 c5
          exact wX7_pass_N_b141 X _ _ _ _ _ _  I (lv_sub hl [3, 5] rfl) h
        · have h := h.2 c5
          exact wX7_pass_N_b128 X _ _ _ _ _ _  I (lv_sub hl [1, 3, 5] rfl) h
    · have h := h.2 c1
      refine lv_aload_n hx hb (kn_dec tX7_pass 8 rfl) rfl (lv_at hl 3 rfl) ?_
      refine kw_getl hx hb hts inX6 hown hK I 2 rfl rfl 6 (by decide) rfl (hts _ q1_239) (kn_dec tX7_pass 9 rfl) rfl ?_
      refine lv_iload hx hb (kn_dec tX7_pass 10 rfl) (lv_at hl 6 rfl) ?_
      obtain ⟨hs6, h⟩ := h
      refine kw_iald hx hb hK I 2 rfl 6 4 (List.mem_of_getElem? (i := 3) rfl) hs6 (kn_dec tX7_pass 11 rfl) ?_
      refine lv_iconst (v := (-1)) hx hb (kn_dec tX7_pass 12 rfl) (by decide) ?_
      refine lv_icmp_ne (tgt := 106) hx hb (kn_dec tX7_pass 13 rfl) (by decide) (fun c7 => ?_) (fun c7 => ?_)
      · have h := h.1 c7
        refine kw_iinc (lvf := fun y => [(6, .int y), (0, .ref (ad_w 0)), (1, .ref (ad_h 0)), (2, .null), (3, .ref (ad_s 0)), (4, .int _), (5, .int _)]) (nv := (1)) hx hb (kn_dec tX7_pass 58 rfl) hl (k := 6) rfl (by decide) (by decide) (fun _ => rfl) (fun x8 ex8 ls hl => ?_)
        have h := h x8 ex8
        refine lv_goto (tgt := 6) hx hb (kn_dec tX7_pass 59 rfl) (by decide) ?_
        exact ih _ _ _ _ _ _ _ _ hz_y4 I (lv_sub hl [1, 2, 3, 4, 5, 6, 0] rfl) h
      · have h := h.2 c7
        refine lv_aload_n hx hb (kn_dec tX7_pass 14 rfl) rfl (lv_at hl 0 rfl) ?_
        refine lv_aload_n hx hb (kn_dec tX7_pass 15 rfl) rfl (lv_at hl 1 rfl) ?_
        refine lv_aload_nN hx hb (kn_dec tX7_pass 16 rfl) rfl (lv_at hl 2 rfl) ?_
        refine lv_aload_n hx hb (kn_dec tX7_pass 17 rfl) rfl (lv_at hl 3 rfl) ?_
        refine lv_iload hx hb (kn_dec tX7_pass 18 rfl) (lv_at hl 6 rfl) ?_
        refine kw_callv (wc := [(kWalk, ad_w, _), (kHill, ad_h, _), (kState, ad_s, _)]) (wr := []) I hA [0, 1, 2] [] rfl rfl (by decide) (by decide) (kn_runV (As := [.ref (ad_h 0), .null, .ref (ad_s 0), .int _]) S0 hK hZ hA I ((ctX7_look_N h).met _) (kn_cwV 4 hts q3_187 q3_188 q3_189 q1_9 q3_190 rfl rfl (by decide +kernel) ⟨(Nat.le_of_ble_eq_true rfl), (Nat.le_of_ble_eq_true rfl)⟩) [0, 1, 2] rfl (by decide) 0 rfl rfl rfl rfl hl.1 rfl (Nat.le_of_ble_eq_true rfl) (kn_dec tX7_pass 19 rfl) ⟨(Nat.le_of_ble_eq_true rfl), (Nat.le_of_ble_eq_true rfl)⟩) (fun u10 H locs h I => ?_)
        have I : kn_I D tc (kn_A w0 s.heap.size) s.heap [(kWalk, ad_w, _), (kHill, ad_h, _), (kState, ad_s, _)] _ _ := I
        refine lv_aload_n hx hb (kn_dec tX7_pass 20 rfl) rfl (lv_at hl 0 rfl) ?_
        refine lv_aload_n hx hb (kn_dec tX7_pass 21 rfl) rfl (lv_at hl 3 rfl) ?_
        refine lv_iload hx hb (kn_dec tX7_pass 22 rfl) (lv_at hl 6 rfl) ?_
        refine kw_callv (wc := [(kWalk, ad_w, _), (kState, ad_s, _)]) (wr := [(kHill, ad_h, _)]) I hA [0, 2] [1] rfl rfl (by decide) (by decide) (kn_runV (As := [.ref (ad_s 0), .int _]) S0 hK hZ hA I ((ctX7_leaveTraces h).met _) (kn_cwV 2 hts q3_238 q4_0 q0_20 q1_9 q4_1 rfl rfl (by decide +kernel) ⟨(Nat.le_of_ble_eq_true rfl), (Nat.le_of_ble_eq_true rfl)⟩) [0, 2] rfl (by decide) 0 rfl rfl rfl rfl hl.1 rfl (Nat.le_of_ble_eq_true rfl) (kn_dec tX7_pass 23 rfl) ⟨(Nat.le_of_ble_eq_true rfl), (Nat.le_of_ble_eq_true rfl)⟩) (fun u12 H locs h I => ?_)
        have I : kn_I D tc (kn_A w0 s.heap.size) s.heap [(kWalk, ad_w, _), (kHill, ad_h, _), (kState, ad_s, _)] _ _ := I.sub [1, 0, 2] (by decide) rfl
        refine lv_aload_n hx hb (kn_dec tX7_pass 24 rfl) rfl (lv_at hl 0 rfl) ?_
        refine kw_geti hx hb hts inX7 hown hK I 0 rfl rfl 5 (by decide) rfl (hts _ q2_81) (kn_dec tX7_pass 25 rfl) ?_
        refine lv_if_eq (tgt := 85) hx hb (kn_dec tX7_pass 26 rfl) (by decide) (fun c13 => ?_) (fun c13 => ?_)
        · have h := h.1 c13
          refine lv_aload_n hx hb (kn_dec tX7_pass 46 rfl) rfl (lv_at hl 3 rfl) ?_
          refine kw_getl hx hb hts inX6 hown hK I 2 rfl rfl 7 (by decide) rfl (hts _ q2_2) (kn_dec tX7_pass 47 rfl) rfl ?_
          refine lv_iload hx hb (kn_dec tX7_pass 48 rfl) (lv_at hl 6 rfl) ?_
          refine lv_bipush (v := (99)) hx hb (kn_dec tX7_pass 49 rfl) (by decide) ?_
          refine lv_aload_n hx hb (kn_dec tX7_pass 50 rfl) rfl (lv_at hl 3 rfl) ?_
          refine kw_getl hx hb hts inX6 hown hK I 2 rfl rfl 7 (by decide) rfl (hts _ q2_2) (kn_dec tX7_pass 51 rfl) rfl ?_
          refine lv_iload hx hb (kn_dec tX7_pass 52 rfl) (lv_at hl 6 rfl) ?_
          obtain ⟨hs14, h⟩ := h
          refine kw_iald hx hb hK I 2 rfl 7 4 (List.mem_of_getElem? (i := 4) rfl) hs14 (kn_dec tX7_pass 53 rfl) ?_
          refine lv_iconst (v := (1)) hx hb (kn_dec tX7_pass 54 rfl) (by decide) ?_
          refine lv_iadd hx hb (kn_dec tX7_pass 55 rfl) ?_
          refine va_mmin hx hb (hml.trans hl.1.symm) hown (hts _ q4_2) (hts _ q2_163) (hts _ q1_11) (hts _ q2_164) (Nat.le_of_ble_eq_true rfl) (Nat.le_of_ble_eq_true rfl) (Nat.le_of_ble_eq_true rfl) (Nat.le_of_ble_eq_true rfl) (kn_dec tX7_pass 56 rfl) ?_
          refine lv_topi (fun x15 ex15 => ?_)
          have h := h x15 ex15
          obtain ⟨hs16, h⟩ := h
          refine kw_iast hx hb hK I 2 rfl 7 4 (List.mem_of_getElem? (i := 4) rfl) ukState_7 hs16 (kn_dec tX7_pass 57 rfl) (fun v_s17 ev_s17 H locs I => ?_)
          have h := h v_s17 ev_s17
          have I : kn_I D tc (kn_A w0 s.heap.size) s.heap [(kWalk, ad_w, _), (kHill, ad_h, _), (kState, ad_s, _)] _ _ := I
          refine kw_iinc (lvf := fun y => [(6, .int y), (0, .ref (ad_w 0)), (1, .ref (ad_h 0)), (2, .null), (3, .ref (ad_s 0)), (4, .int _), (5, .int _)]) (nv := (1)) hx hb (kn_dec tX7_pass 58 rfl) hl (k := 6) rfl (by decide) (by decide) (fun _ => rfl) (fun x18 ex18 ls hl => ?_)
          have h := h x18 ex18
          refine lv_goto (tgt := 6) hx hb (kn_dec tX7_pass 59 rfl) (by decide) ?_
          exact ih _ _ _ _ _ _ _ _ hz_y4 I (lv_sub hl [1, 2, 3, 4, 5, 6, 0] rfl) h
        · have h := h.2 c13
          refine kw_iinc (lvf := fun y => [(5, .int y), (0, .ref (ad_w 0)), (1, .ref (ad_h 0)), (2, .null), (3, .ref (ad_s 0)), (4, .int _), (6, .int _)]) (nv := (1)) hx hb (kn_dec tX7_pass 27 rfl) hl (k := 5) rfl (by decide) (by decide) (fun _ => rfl) (fun x19 ex19 ls hl => ?_)
          have h := h x19 ex19
          refine lv_aload_n hx hb (kn_dec tX7_pass 28 rfl) rfl (lv_at hl 4 rfl) ?_
          refine kw_getl hx hb hts inX6 hown hK I 2 rfl rfl 6 (by decide) rfl (hts _ q1_239) (kn_dec tX7_pass 29 rfl) rfl ?_
          refine lv_iload hx hb (kn_dec tX7_pass 30 rfl) (lv_at hl 6 rfl) ?_
          refine lv_aload_n hx hb (kn_dec tX7_pass 31 rfl) rfl (lv_at hl 4 rfl) ?_
          refine kw_geti hx hb hts inX6 hown hK I 2 rfl rfl 0 (by decide) rfl (hts _ q1_220) (kn_dec tX7_pass 32 rfl) ?_
          refine lv_topi (fun x20 ex20 => ?_)
          have h := h x20 ex20
          obtain ⟨hs21, h⟩ := h
          refine kw_iast hx hb hK I 2 rfl 6 4 (List.mem_of_getElem? (i := 3) rfl) ukState_6 hs21 (kn_dec tX7_pass 33 rfl) (fun v_s22 ev_s22 H locs I => ?_)
          have h := h v_s22 ev_s22
          have I : kn_I D tc (kn_A w0 s.heap.size) s.heap [(kWalk, ad_w, _), (kHill, ad_h, _), (kState, ad_s, _)] _ _ := I
          refine lv_aload_n hx hb (kn_dec tX7_pass 34 rfl) rfl (lv_at hl 2 rfl) ?_
          refine lv_aload_n hx hb (kn_dec tX7_pass 35 rfl) rfl (lv_at hl 4 rfl) ?_
          refine lv_iload hx hb (kn_dec tX7_pass 36 rfl) (lv_at hl 6 rfl) ?_
          refine kw_callv (wc := [(kHill, ad_h, _), (kState, ad_s, _)]) (wr := [(kWalk, ad_w, _)]) I hA [1, 2] [0] rfl rfl (by decide) (by decide) (kn_runS (As := [.ref (ad_h 0), .ref (ad_s 0), .int _]) S0 hK hZ hA I ((ctX7_swap h).met _) (kn_cwS 3 hts q4_3 q4_4 q1_9 q4_5 rfl rfl (by decide +kernel) ⟨(Nat.le_of_ble_eq_true rfl), (Nat.le_of_ble_eq_true rfl)⟩) [1, 2] rfl (by decide) rfl hl.1 rfl (Nat.le_of_ble_eq_true rfl) (kn_dec tX7_pass 37 rfl) ⟨(Nat.le_of_ble_eq_true rfl), (Nat.le_of_ble_eq_true rfl)⟩) (fun u24 H locs h I => ?_)
          have I : kn_I D tc (kn_A w0 s.heap.size) s.heap [(kWalk, ad_w, _), (kHill, ad_h, _), (kState, ad_s, _)] _ _ := I
          refine lv_aload_n hx hb (kn_dec tX7_pass 38 rfl) rfl (lv_at hl 2 rfl) ?_
          refine lv_aload_n hx hb (kn_dec tX7_pass 39 rfl) rfl (lv_at hl 4 rfl) ?_
          refine lv_aload_n hx hb (kn_dec tX7_pass 40 rfl) rfl (lv_at hl 2 rfl) ?_
          refine kw_getl hx hb hts inX0 hown hK I 1 rfl rfl 15 (by decide) rfl (hts _ q1_169) (kn_dec tX7_pass 41 rfl) rfl ?_
          refine lv_iload hx hb (kn_dec tX7_pass 42 rfl) (lv_at hl 6 rfl) ?_
          obtain ⟨hs25, h⟩ := h
          refine kw_iald hx hb hK I 1 rfl 15 4 (List.mem_of_getElem? (i := 7) rfl) hs25 (kn_dec tX7_pass 43 rfl) ?_
          refine kw_callv (wc := [(kHill, ad_h, _), (kState, ad_s, _)]) (wr := [(kWalk, ad_w, _)]) I hA [1, 2] [0] rfl rfl (by decide) (by decide) (kn_runS (As := [.ref (ad_h 0), .ref (ad_s 0), .int _]) S0 hK hZ hA I ((ctX7_putBack h).met _) (kn_cwS 3 hts q4_6 q4_7 q1_9 q4_8 rfl rfl (by decide +kernel) ⟨(Nat.le_of_ble_eq_true rfl), (Nat.le_of_ble_eq_true rfl)⟩) [1, 2] rfl (by decide) rfl hl.1 rfl (Nat.le_of_ble_eq_true rfl) (kn_dec tX7_pass 44 rfl) ⟨(Nat.le_of_ble_eq_true rfl), (Nat.le_of_ble_eq_true rfl)⟩) (fun u27 H locs h I => ?_)
          have I : kn_I D tc (kn_A w0 s.heap.size) s.heap [(kWalk, ad_w, _), (kHill, ad_h, _), (kState, ad_s, _)] _ _ := I
          refine lv_goto (tgt := 106) hx hb (kn_dec tX7_pass 45 rfl) (by decide) ?_
          refine kw_iinc (lvf := fun y => [(6, .int y), (5, .int _), (0, .ref (ad_w 0)), (1, .ref (ad_h 0)), (2, .null), (3, .ref (ad_s 0)), (4, .int _)]) (nv := (1)) hx hb (kn_dec tX7_pass 58 rfl) hl (k := 6) rfl (by decide) (by decide) (fun _ => rfl) (fun x28 ex28 ls hl => ?_)
          have h := h x28 ex28
          refine lv_goto (tgt := 6) hx hb (kn_dec tX7_pass 59 rfl) (by decide) ?_
          exact ih _ _ _ _ _ _ _ _ hz_y4 I (lv_sub hl [2, 3, 4, 5, 6, 1, 0] rfl) h
def PX7_pass_N  (v_w : OV) (v_h : OV) (v_s : OV) (a4 : Int32) (post : Int32 → OV → OV → Prop) : Prop := (∃ n1 : Nat, PX7_pass_N_L6 v_h post n1 a4 ((0 : Int32)) ((0 : Int32)) v_w v_s)
set_option maxRecDepth 100000 in
set_option maxHeartbeats 1000000 in
theorem ctX7_pass_N {l : Launch} {D : va_G} {tc : Nat → ClassId} {Z : (Nat → Nat) × (Nat → Nat)}  {ad_w : Nat → Nat} {ad_h : Nat → Nat} {ad_s : Nat → Nat} {v_w : OV} {v_h : OV} {v_s : OV} {a4 : Int32}   (hz_a4 : a4 = 0 ∨ a4 = 1) {post : Int32 → OV → OV → Prop} (h : PX7_pass_N  v_w v_h v_s a4 post) : CTi l D tc Z yX7_pass (Cond.code yX7_pass cX7_pass 7 (some .int) :: kn_all) rmX7_pass_N 0 0 [.ref (ad_w 0), .ref (ad_h 0), .null, .ref (ad_s 0), .int a4] [(kWalk, ad_w, v_w), (kHill, ad_h, v_h), (kState, ad_s, v_s)] (fun (u : OV × OV) => [(kWalk, ad_w, u.1), (kHill, ad_h, v_h), (kState, ad_s, u.2)]) (fun (r : Int32) (u : OV × OV) => post r u.1 u.2) := by
  refine kn_ofi (cc := cX7_pass) (nL := 7) (ret := (some .int)) (lv := [(0, .ref (ad_w 0)), (1, .ref (ad_h 0)), (2, .null), (3, .ref (ad_s 0)), (4, .int a4)]) (by decide) (Nat.le_of_ble_eq_true rfl) rfl (fun p e s m below meth c ls X I hl _ => ?_)
  obtain ⟨S0, hr, hlocks, hK, hZ, hA⟩ := id X
  obtain ⟨hx, hb, hml, hown, hts⟩ := id S0
  unfold PX7_pass_N at h
  refine lv_iconst (v := (0)) hx hb (kn_dec tX7_pass 0 rfl) (by decide) ?_
  refine lv_istore (lv' := [(5, .int _), (0, .ref (ad_w 0)), (1, .ref (ad_h 0)), (2, .null), (3, .ref (ad_s 0)), (4, .int _)]) hx hb (kn_dec tX7_pass 1 rfl) hl (by decide) rfl (fun ls hl => ?_)
  refine lv_iconst (v := (0)) hx hb (kn_dec tX7_pass 2 rfl) (by decide) ?_
  refine lv_istore (lv' := [(6, .int _), (5, .int _), (0, .ref (ad_w 0)), (1, .ref (ad_h 0)), (2, .null), (3, .ref (ad_s 0)), (4, .int _)]) hx hb (kn_dec tX7_pass 3 rfl) hl (by decide) rfl (fun ls hl => ?_)
  obtain ⟨n1, h⟩ := h
  exact wX7_pass_N_L6 X n1 _ _ _ _ _ _ _ _ hz_a4 I (lv_sub hl [2, 3, 4, 5, 6, 1, 0] rfl) h

/-! X7_pass_R -/
abbrev rmX7_pass_R : Room := { frames := 5, cells := 0, slots := 0, locals := 141 }
def PX7_pass_R_b141 (v_h : OV)  (post : Int32 → OV → OV → OV → Prop) (y5 : Int32) (v_w : OV) (v_u : OV) (v_s : OV) : Prop := (∀ x1 : Int32, x1 = ((v_s.1 0) + ((1 : Int32))) → (∀ v_s2 : OV, v_s2 = si v_s 0 x1 → post y5 v_w v_u v_s2))
set_option maxRecDepth 100000 in
set_option maxHeartbeats 1000000 in
theorem wX7_pass_R_b141 {v_h : OV}  {post : Int32 → OV → OV → OV → Prop} {ad_w : Nat → Nat} {ad_h : Nat → Nat} {ad_u : Nat → Nat} {ad_s : Nat → Nat} (X : kn_X p s m args meth c cX7_pass 7 (some .int) RX7 kn_all D tc Z (kn_A w0 s.heap.size))    : ∀ (H : Heap) (locs : List Loc) (ls : Array Slot) (y5 : Int32) (v_w : OV) (v_u : OV) (v_s : OV), kn_I D tc (kn_A w0 s.heap.size) s.heap [(kWalk, ad_w, v_w), (kHill, ad_h, v_h), (kRule, ad_u, v_u), (kState, ad_s, v_s)] H locs → lv_has ls 7 [(3, .ref (ad_s 0)), (5, .int y5)] → PX7_pass_R_b141 v_h post y5 v_w v_u v_s → W p l e rmX7_pass_R s m args below meth c H locs 0 0 (kn_Qi D tc w0 (fun (u : OV × OV × OV) => [(kWalk, ad_w, u.1), (kHill, ad_h, v_h), (kRule, ad_u, u.2.1), (kState, ad_s, u.2.2)]) (fun (r : Int32) (u : OV × OV × OV) => post r u.1 u.2.1 u.2.2) below args s 0 0) (F0 m 141 ls []) := by
  obtain ⟨S0, hr, hlocks, hK, hZ, hA⟩ := id X
  obtain ⟨hx, hb, hml, hown, hts⟩ := id S0
  intro H locs ls y5 v_w v_u v_s I hl h
  unfold PX7_pass_R_b141 at h
  refine lv_aload_n hx hb (kn_dec tX7_pass 74 rfl) rfl (lv_at hl 0 rfl) ?_
  refine lv_dup hx hb (kn_dec tX7_pass 75 rfl) rfl ?_
  refine kw_geti hx hb hts inX6 hown hK I 3 rfl rfl 0 (by decide) rfl (hts _ q1_220) (kn_dec tX7_pass 76 rfl) ?_
  refine lv_iconst (v := (1)) hx hb (kn_dec tX7_pass 77 rfl) (by decide) ?_
  refine lv_iadd hx hb (kn_dec tX7_pass 78 rfl) ?_
  refine lv_topi (fun x1 ex1 => ?_)
  have h := h x1 ex1
  refine kw_puti hx hb hts inX6 tyX6 tyX6_ok nmX6 hown hK I 3 rfl rfl 0 (by decide) rfl (hts _ q1_220) rfl rfl rfl (kn_dec tX7_pass 79 rfl) (fun v_s2 ev_s2 H locs I => ?_)
  have h := h v_s2 ev_s2
  have I : kn_I D tc (kn_A w0 s.heap.size) s.heap [(kWalk, ad_w, _), (kHill, ad_h, _), (kRule, ad_u, _), (kState, ad_s, _)] _ _ := I
  refine lv_iload hx hb (kn_dec tX7_pass 80 rfl) (lv_at hl 1 rfl) ?_
  exact kw_iret hx hb hr hlocks I (v_w, v_u, v_s2) rfl h (kn_dec tX7_pass 81 rfl)
def PX7_pass_R_b128 (v_h : OV)  (post : Int32 → OV → OV → OV → Prop) (y5 : Int32) (v_w : OV) (v_u : OV) (v_s : OV) : Prop := (PX7_isSeen v_h v_s (fun r1 => ((r1 = ((0 : Int32)) → PX7_pass_R_b141 v_h post y5 v_w v_u v_s) ∧ (¬ r1 = ((0 : Int32)) → (∀ v_s4 : OV, v_s4 = si v_s 2 ((-1 : Int32)) → PX7_pass_R_b141 v_h post y5 v_w v_u v_s4)))))
set_option maxRecDepth 100000 in
set_option maxHeartbeats 1000000 in
theorem wX7_pass_R_b128 {v_h : OV}  {post : Int32 → OV → OV → OV → Prop} {ad_w : Nat → Nat} {ad_h : Nat → Nat} {ad_u : Nat → Nat} {ad_s : Nat → Nat} (X : kn_X p s m args meth c cX7_pass 7 (some .int) RX7 kn_all D tc Z (kn_A w0 s.heap.size))    : ∀ (H : Heap) (locs : List Loc) (ls : Array Slot) (y5 : Int32) (v_w : OV) (v_u : OV) (v_s : OV), kn_I D tc (kn_A w0 s.heap.size) s.heap [(kWalk, ad_w, v_w), (kHill, ad_h, v_h), (kRule, ad_u, v_u), (kState, ad_s, v_s)] H locs → lv_has ls 7 [(1, .ref (ad_h 0)), (3, .ref (ad_s 0)), (5, .int y5)] → PX7_pass_R_b128 v_h post y5 v_w v_u v_s → W p l e rmX7_pass_R s m args below meth c H locs 0 0 (kn_Qi D tc w0 (fun (u : OV × OV × OV) => [(kWalk, ad_w, u.1), (kHill, ad_h, v_h), (kRule, ad_u, u.2.1), (kState, ad_s, u.2.2)]) (fun (r : Int32) (u : OV × OV × OV) => post r u.1 u.2.1 u.2.2) below args s 0 0) (F0 m 128 ls []) := by
  obtain ⟨S0, hr, hlocks, hK, hZ, hA⟩ := id X
  obtain ⟨hx, hb, hml, hown, hts⟩ := id S0
  intro H locs ls y5 v_w v_u v_s I hl h
  unfold PX7_pass_R_b128 at h
  refine lv_aload_n hx hb (kn_dec tX7_pass 67 rfl) rfl (lv_at hl 0 rfl) ?_
  refine lv_aload_n hx hb (kn_dec tX7_pass 68 rfl) rfl (lv_at hl 1 rfl) ?_
  refine kw_calli (wc := [(kHill, ad_h, _), (kState, ad_s, _)]) (wr := [(kWalk, ad_w, _), (kRule, ad_u, _)]) I hA [1, 3] [0, 2] rfl rfl (by decide) (by decide) (kn_runS (As := [.ref (ad_h 0), .ref (ad_s 0)]) S0 hK hZ hA I ((ctX7_isSeen h).met _) (kn_cwS 2 hts q4_13 q4_14 q1_9 q4_15 rfl rfl (by decide +kernel) ⟨(Nat.le_of_ble_eq_true rfl), (Nat.le_of_ble_eq_true rfl)⟩) [1, 3] rfl (by decide) rfl hl.1 rfl (Nat.le_of_ble_eq_true rfl) (kn_dec tX7_pass 69 rfl) ⟨(Nat.le_of_ble_eq_true rfl), (Nat.le_of_ble_eq_true rfl)⟩) (fun r1 u2 H locs h I => ?_)
  obtain ⟨hz_r1, h⟩ := h
  have I : kn_I D tc (kn_A w0 s.heap.size) s.heap [(kWalk, ad_w, _), (kHill, ad_h, _), (kRule, ad_u, _), (kState, ad_s, _)] _ _ := I.sub [0, 2, 1, 3] (by decide) rfl
  refine lv_if_eq (tgt := 141) hx hb (kn_dec tX7_pass 70 rfl) (by decide) (fun c3 => ?_) (fun c3 => ?_)
  · have h := h.1 c3
    exact wX7_pass_R_b141 X _ _ _ _ _ _ _  I (lv_sub hl [1, 2] rfl) h
  · have h := h.2 c3
    refine lv_aload_n hx hb (kn_dec tX7_pass 71 rfl) rfl (lv_at hl 1 rfl) ?_
    refine lv_iconst (v := (-1)) hx hb (kn_dec tX7_pass 72 rfl) (by decide) ?_
    refine kw_puti hx hb hts inX6 tyX6 tyX6_ok nmX6 hown hK I 3 rfl rfl 2 (by decide) rfl (hts _ q1_226) rfl rfl rfl (kn_dec tX7_pass 73 rfl) (fun v_s4 ev_s4 H locs I => ?_)
    have h := h v_s4 ev_s4
    have I : kn_I D tc (kn_A w0 s.heap.size) s.heap [(kWalk, ad_w, _), (kHill, ad_h, _), (kRule, ad_u, _), (kState, ad_s, _)] _ _ := I
    exact wX7_pass_R_b141 X _ _ _ _ _ _ _  I (lv_sub hl [1, 2] rfl) h
def PX7_pass_R_L6 (v_h : OV)  (post : Int32 → OV → OV → OV → Prop) : Nat → Int32 → Int32 → Int32 → OV → OV → OV → Prop
  | 0, _, _, _, _, _, _ => False
  | n + 1, y4, y5, y6, v_w, v_u, v_s => (((v_h.1 11) ≤ y6 → ((¬ y4 = ((0 : Int32)) → PX7_pass_R_b128 v_h post y5 v_w v_u v_s) ∧ (y4 = ((0 : Int32)) → (PX0_walkersCome v_h (v_s.1 0) (fun r3 => ((r3 = ((0 : Int32)) → PX7_pass_R_b141 v_h post y5 v_w v_u v_s) ∧ (¬ r3 = ((0 : Int32)) → PX7_pass_R_b128 v_h post y5 v_w v_u v_s))))))) ∧ (¬ (v_h.1 11) ≤ y6 → (vp_in y6 4 ∧ ((¬ (v_s.2.1 6 y6.toNatClampNeg) = ((-1 : Int32)) → (∀ x8 : Int32, x8 = y6 + (1 : Int32) → PX7_pass_R_L6 v_h post n y4 y5 x8 v_w v_u v_s)) ∧ ((v_s.2.1 6 y6.toNatClampNeg) = ((-1 : Int32)) → (PX7_look_R v_w v_h v_u v_s y6 (fun v_w9 v_u10 => (PX7_leaveTraces v_w9 v_s y6 (fun v_s12 => (((v_w9.1 5) = ((0 : Int32)) → (vp_in y6 4 ∧ (∀ x16 : Int32, x16 = (if ((v_s12.2.1 7 y6.toNatClampNeg) + ((1 : Int32))) < ((99 : Int32)) then ((v_s12.2.1 7 y6.toNatClampNeg) + ((1 : Int32))) else ((99 : Int32))) → (vp_in y6 4 ∧ (∀ v_s18 : OV, v_s18 = sa v_s12 7 (upd (v_s12.2.1 7) y6.toNatClampNeg x16) → (∀ x19 : Int32, x19 = y6 + (1 : Int32) → PX7_pass_R_L6 v_h post n y4 y5 x19 v_w9 v_u10 v_s18)))))) ∧ (¬ (v_w9.1 5) = ((0 : Int32)) → (∀ x20 : Int32, x20 = y5 + (1 : Int32) → (∀ x21 : Int32, x21 = (v_s12.1 0) → (vp_in y6 4 ∧ (∀ v_s23 : OV, v_s23 = sa v_s12 6 (upd (v_s12.2.1 6) y6.toNatClampNeg x21) → (PX7_swap v_h v_s23 y6 (fun v_s24 => (vp_in y6 4 ∧ (PX7_putBack v_h v_s24 (v_h.2.1 15 y6.toNatClampNeg) (fun v_s27 => (∀ x29 : Int32, x29 = y6 + (1 : Int32) → PX7_pass_R_L6 v_h post n y4 x20 x29 v_w9 v_u10 v_s27)))))))))))))))))))))
set_option maxRecDepth 100000 in
set_option maxHeartbeats 1000000 in
theorem wX7_pass_R_L6 {v_h : OV}  {post : Int32 → OV → OV → OV → Prop} {ad_w : Nat → Nat} {ad_h : Nat → Nat} {ad_u : Nat → Nat} {ad_s : Nat → Nat} (X : kn_X p s m args meth c cX7_pass 7 (some .int) RX7 kn_all D tc Z (kn_A w0 s.heap.size))    : ∀ n : Nat, ∀ (H : Heap) (locs : List Loc) (ls : Array Slot) (y4 : Int32) (y5 : Int32) (y6 : Int32) (v_w : OV) (v_u : OV) (v_s : OV), (hz_y4 : y4 = 0 ∨ y4 = 1) → kn_I D tc (kn_A w0 s.heap.size) s.heap [(kWalk, ad_w, v_w), (kHill, ad_h, v_h), (kRule, ad_u, v_u), (kState, ad_s, v_s)] H locs → lv_has ls 7 [(0, .ref (ad_w 0)), (1, .ref (ad_h 0)), (2, .ref (ad_u 0)), (3, .ref (ad_s 0)), (4, .int y4), (5, .int y5), (6, .int y6)] → PX7_pass_R_L6 v_h post n y4 y5 y6 v_w v_u v_s → W p l e rmX7_pass_R s m args below meth c H locs 0 0 (kn_Qi D tc w0 (fun (u : OV × OV × OV) => [(kWalk, ad_w, u.1), (kHill, ad_h, v_h), (kRule, ad_u, u.2.1), (kState, ad_s, u.2.2)]) (fun (r : Int32) (u : OV × OV × OV) => post r u.1 u.2.1 u.2.2) below args s 0 0) (F0 m 6 ls []) := by
  obtain ⟨S0, hr, hlocks, hK, hZ, hA⟩ := id X
  obtain ⟨hx, hb, hml, hown, hts⟩ := id S0
  intro n
  induction n with
  | zero =>
    intro H locs ls y4 y5 y6 v_w v_u v_s hz_y4 I hl h
    unfold PX7_pass_R_L6 at h
    exact h.elim
  | succ n ih =>
    intro H locs ls y4 y5 y6 v_w v_u v_s hz_y4 I hl h
    unfold PX7_pass_R_L6 at h
    refine lv_iload hx hb (kn_dec tX7_pass 4 rfl) (lv_at hl 6 rfl) ?_
    refine lv_aload_n hx hb (kn_dec tX7_pass 5 rfl) rfl (lv_at hl 1 rfl) ?_
    refine kw_geti hx hb hts inX0 hown hK I 1 rfl rfl 11 (by decide) rfl (hts _ q1_154) (kn_dec tX7_pass 6 rfl) ?_
    refine lv_icmp_ge (tgt := 112) hx hb (kn_dec tX7_pass 7 rfl) (by decide) (fun c1 => ?_) (fun c1 => ?_)
    · have h := h.1 c1
      refine lv_iload hx hb (kn_dec tX7_pass 60 rfl) (lv_at hl 4 rfl) ?_
      refine lv_if_ne (tgt := 128) hx hb (kn_dec tX7_pass 61 rfl) (by decide) (fun c2 => ?_) (fun c2 => ?_)
      · have h := h.1 c2
        exact wX7_pass_R_b128 X _ _ _ _ _ _ _  I (lv_sub hl [1, 3, 5] rfl) h
      · have h := h.2 c2
        refine lv_aload_n hx hb (kn_dec tX7_pass 62 rfl) rfl (lv_at hl 1 rfl) ?_
        refine lv_aload_n hx hb (kn_dec tX7_pass 63 rfl) rfl (lv_at hl 3 rfl) ?_
        refine kw_geti hx hb hts inX6 hown hK I 3 rfl rfl 0 (by decide) rfl (hts _ q1_220) (kn_dec tX7_pass 64 rfl) ?_
        refine kw_calli (wc := [(kHill, ad_h, _)]) (wr := [(kWalk, ad_w, _), (kRule, ad_u, _), (kState, ad_s, _)]) I hA [1] [0, 2, 3] rfl rfl (by decide) (by decide) (kn_runV (As := [.int _]) S0 hK hZ hA I ((ctX0_walkersCome h).met _) (kn_cwV 1 hts q4_9 q4_10 q4_11 q1_7 q4_12 rfl rfl (by decide +kernel) ⟨(Nat.le_of_ble_eq_true rfl), (Nat.le_of_ble_eq_true rfl)⟩) [1] rfl (by decide) 1 rfl rfl rfl rfl hl.1 rfl (Nat.le_of_ble_eq_true rfl) (kn_dec tX7_pass 65 rfl) ⟨(Nat.le_of_ble_eq_true rfl), (Nat.le_of_ble_eq_true rfl)⟩) (fun r3 u4 H locs h I => ?_)
        obtain ⟨hz_r3, h⟩ := h
        have I : kn_I D tc (kn_A w0 s.heap.size) s.heap [(kWalk, ad_w, _), (kHill, ad_h, _), (kRule, ad_u, _), (kState, ad_s, _)] _ _ := I.sub [0, 3, 1, 2] (by decide) rfl
        refine lv_if_eq (tgt := 141) hx hb (kn_dec tX7_pass 66 rfl) (by decide) (fun c5 => ?_) (fun c5 => ?_)
        · have h := h.1 c5
          exact wX7_pass_R_b141 X _ _ _ _ _ _ _  I (lv_sub hl [3, 5] rfl) h
        · have h := h.2 c5
          exact wX7_pass_R_b128 X _ _ _ _ _ _ _  I (lv_sub hl [1, 3, 5] rfl) h
    · have h := h.2 c1
      refine lv_aload_n hx hb (kn_dec tX7_pass 8 rfl) rfl (lv_at hl 3 rfl) ?_
      refine kw_getl hx hb hts inX6 hown hK I 3 rfl rfl 6 (by decide) rfl (hts _ q1_239) (kn_dec tX7_pass 9 rfl) rfl ?_
      refine lv_iload hx hb (kn_dec tX7_pass 10 rfl) (lv_at hl 6 rfl) ?_
      obtain ⟨hs6, h⟩ := h
      refine kw_iald hx hb hK I 3 rfl 6 4 (List.mem_of_getElem? (i := 3) rfl) hs6 (kn_dec tX7_pass 11 rfl) ?_
      refine lv_iconst (v := (-1)) hx hb (kn_dec tX7_pass 12 rfl) (by decide) ?_
      refine lv_icmp_ne (tgt := 106) hx hb (kn_dec tX7_pass 13 rfl) (by decide) (fun c7 => ?_) (fun c7 => ?_)
      · have h := h.1 c7
        refine kw_iinc (lvf := fun y => [(6, .int y), (0, .ref (ad_w 0)), (1, .ref (ad_h 0)), (2, .ref (ad_u 0)), (3, .ref (ad_s 0)), (4, .int _), (5, .int _)]) (nv := (1)) hx hb (kn_dec tX7_pass 58 rfl) hl (k := 6) rfl (by decide) (by decide) (fun _ => rfl) (fun x8 ex8 ls hl => ?_)
        have h := h x8 ex8
        refine lv_goto (tgt := 6) hx hb (kn_dec tX7_pass 59 rfl) (by decide) ?_
        exact ih _ _ _ _ _ _ _ _ _ hz_y4 I (lv_sub hl [1, 2, 3, 4, 5, 6, 0] rfl) h
      · have h := h.2 c7
        refine lv_aload_n hx hb (kn_dec tX7_pass 14 rfl) rfl (lv_at hl 0 rfl) ?_
        refine lv_aload_n hx hb (kn_dec tX7_pass 15 rfl) rfl (lv_at hl 1 rfl) ?_
        refine lv_aload_n hx hb (kn_dec tX7_pass 16 rfl) rfl (lv_at hl 2 rfl) ?_
        refine lv_aload_n hx hb (kn_dec tX7_pass 17 rfl) rfl (lv_at hl 3 rfl) ?_
        refine lv_iload hx hb (kn_dec tX7_pass 18 rfl) (lv_at hl 6 rfl) ?_
        refine kw_callv (wc := [(kWalk, ad_w, _), (kHill, ad_h, _), (kRule, ad_u, _), (kState, ad_s, _)]) (wr := []) I hA [0, 1, 2, 3] [] rfl rfl (by decide) (by decide) (kn_runV (As := [.ref (ad_h 0), .ref (ad_u 0), .ref (ad_s 0), .int _]) S0 hK hZ hA I ((ctX7_look_R h).met _) (kn_cwV 4 hts q3_187 q3_188 q3_189 q1_9 q3_190 rfl rfl (by decide +kernel) ⟨(Nat.le_of_ble_eq_true rfl), (Nat.le_of_ble_eq_true rfl)⟩) [0, 1, 2, 3] rfl (by decide) 0 rfl rfl rfl rfl hl.1 rfl (Nat.le_of_ble_eq_true rfl) (kn_dec tX7_pass 19 rfl) ⟨(Nat.le_of_ble_eq_true rfl), (Nat.le_of_ble_eq_true rfl)⟩) (fun u11 H locs h I => ?_)
        have I : kn_I D tc (kn_A w0 s.heap.size) s.heap [(kWalk, ad_w, _), (kHill, ad_h, _), (kRule, ad_u, _), (kState, ad_s, _)] _ _ := I
        refine lv_aload_n hx hb (kn_dec tX7_pass 20 rfl) rfl (lv_at hl 0 rfl) ?_
        refine lv_aload_n hx hb (kn_dec tX7_pass 21 rfl) rfl (lv_at hl 3 rfl) ?_
        refine lv_iload hx hb (kn_dec tX7_pass 22 rfl) (lv_at hl 6 rfl) ?_
        refine kw_callv (wc := [(kWalk, ad_w, _), (kState, ad_s, _)]) (wr := [(kHill, ad_h, _), (kRule, ad_u, _)]) I hA [0, 3] [1, 2] rfl rfl (by decide) (by decide) (kn_runV (As := [.ref (ad_s 0), .int _]) S0 hK hZ hA I ((ctX7_leaveTraces h).met _) (kn_cwV 2 hts q3_238 q4_0 q0_20 q1_9 q4_1 rfl rfl (by decide +kernel) ⟨(Nat.le_of_ble_eq_true rfl), (Nat.le_of_ble_eq_true rfl)⟩) [0, 3] rfl (by decide) 0 rfl rfl rfl rfl hl.1 rfl (Nat.le_of_ble_eq_true rfl) (kn_dec tX7_pass 23 rfl) ⟨(Nat.le_of_ble_eq_true rfl), (Nat.le_of_ble_eq_true rfl)⟩) (fun u13 H locs h I => ?_)
        have I : kn_I D tc (kn_A w0 s.heap.size) s.heap [(kWalk, ad_w, _), (kHill, ad_h, _), (kRule, ad_u, _), (kState, ad_s, _)] _ _ := I.sub [2, 0, 1, 3] (by decide) rfl
        refine lv_aload_n hx hb (kn_dec tX7_pass 24 rfl) rfl (lv_at hl 0 rfl) ?_
        refine kw_geti hx hb hts inX7 hown hK I 0 rfl rfl 5 (by decide) rfl (hts _ q2_81) (kn_dec tX7_pass 25 rfl) ?_
        refine lv_if_eq (tgt := 85) hx hb (kn_dec tX7_pass 26 rfl) (by decide) (fun c14 => ?_) (fun c14 => ?_)
        · have h := h.1 c14
          refine lv_aload_n hx hb (kn_dec tX7_pass 46 rfl) rfl (lv_at hl 3 rfl) ?_
          refine kw_getl hx hb hts inX6 hown hK I 3 rfl rfl 7 (by decide) rfl (hts _ q2_2) (kn_dec tX7_pass 47 rfl) rfl ?_
          refine lv_iload hx hb (kn_dec tX7_pass 48 rfl) (lv_at hl 6 rfl) ?_
          refine lv_bipush (v := (99)) hx hb (kn_dec tX7_pass 49 rfl) (by decide) ?_
          refine lv_aload_n hx hb (kn_dec tX7_pass 50 rfl) rfl (lv_at hl 3 rfl) ?_
          refine kw_getl hx hb hts inX6 hown hK I 3 rfl rfl 7 (by decide) rfl (hts _ q2_2) (kn_dec tX7_pass 51 rfl) rfl ?_
          refine lv_iload hx hb (kn_dec tX7_pass 52 rfl) (lv_at hl 6 rfl) ?_
          obtain ⟨hs15, h⟩ := h
          refine kw_iald hx hb hK I 3 rfl 7 4 (List.mem_of_getElem? (i := 4) rfl) hs15 (kn_dec tX7_pass 53 rfl) ?_
          refine lv_iconst (v := (1)) hx hb (kn_dec tX7_pass 54 rfl) (by decide) ?_
          refine lv_iadd hx hb (kn_dec tX7_pass 55 rfl) ?_
          refine va_mmin hx hb (hml.trans hl.1.symm) hown (hts _ q4_2) (hts _ q2_163) (hts _ q1_11) (hts _ q2_164) (Nat.le_of_ble_eq_true rfl) (Nat.le_of_ble_eq_true rfl) (Nat.le_of_ble_eq_true rfl) (Nat.le_of_ble_eq_true rfl) (kn_dec tX7_pass 56 rfl) ?_
          refine lv_topi (fun x16 ex16 => ?_)
          have h := h x16 ex16
          obtain ⟨hs17, h⟩ := h
          refine kw_iast hx hb hK I 3 rfl 7 4 (List.mem_of_getElem? (i := 4) rfl) ukState_7 hs17 (kn_dec tX7_pass 57 rfl) (fun v_s18 ev_s18 H locs I => ?_)
          have h := h v_s18 ev_s18
          have I : kn_I D tc (kn_A w0 s.heap.size) s.heap [(kWalk, ad_w, _), (kHill, ad_h, _), (kRule, ad_u, _), (kState, ad_s, _)] _ _ := I
          refine kw_iinc (lvf := fun y => [(6, .int y), (0, .ref (ad_w 0)), (1, .ref (ad_h 0)), (2, .ref (ad_u 0)), (3, .ref (ad_s 0)), (4, .int _), (5, .int _)]) (nv := (1)) hx hb (kn_dec tX7_pass 58 rfl) hl (k := 6) rfl (by decide) (by decide) (fun _ => rfl) (fun x19 ex19 ls hl => ?_)
          have h := h x19 ex19
          refine lv_goto (tgt := 6) hx hb (kn_dec tX7_pass 59 rfl) (by decide) ?_
          exact ih _ _ _ _ _ _ _ _ _ hz_y4 I (lv_sub hl [1, 2, 3, 4, 5, 6, 0] rfl) h
        · have h := h.2 c14
          refine kw_iinc (lvf := fun y => [(5, .int y), (0, .ref (ad_w 0)), (1, .ref (ad_h 0)), (2, .ref (ad_u 0)), (3, .ref (ad_s 0)), (4, .int _), (6, .int _)]) (nv := (1)) hx hb (kn_dec tX7_pass 27 rfl) hl (k := 5) rfl (by decide) (by decide) (fun _ => rfl) (fun x20 ex20 ls hl => ?_)
          have h := h x20 ex20
          refine lv_aload_n hx hb (kn_dec tX7_pass 28 rfl) rfl (lv_at hl 4 rfl) ?_
          refine kw_getl hx hb hts inX6 hown hK I 3 rfl rfl 6 (by decide) rfl (hts _ q1_239) (kn_dec tX7_pass 29 rfl) rfl ?_
          refine lv_iload hx hb (kn_dec tX7_pass 30 rfl) (lv_at hl 6 rfl) ?_
          refine lv_aload_n hx hb (kn_dec tX7_pass 31 rfl) rfl (lv_at hl 4 rfl) ?_
          refine kw_geti hx hb hts inX6 hown hK I 3 rfl rfl 0 (by decide) rfl (hts _ q1_220) (kn_dec tX7_pass 32 rfl) ?_
          refine lv_topi (fun x21 ex21 => ?_)
          have h := h x21 ex21
          obtain ⟨hs22, h⟩ := h
          refine kw_iast hx hb hK I 3 rfl 6 4 (List.mem_of_getElem? (i := 3) rfl) ukState_6 hs22 (kn_dec tX7_pass 33 rfl) (fun v_s23 ev_s23 H locs I => ?_)
          have h := h v_s23 ev_s23
          have I : kn_I D tc (kn_A w0 s.heap.size) s.heap [(kWalk, ad_w, _), (kHill, ad_h, _), (kRule, ad_u, _), (kState, ad_s, _)] _ _ := I
          refine lv_aload_n hx hb (kn_dec tX7_pass 34 rfl) rfl (lv_at hl 2 rfl) ?_
          refine lv_aload_n hx hb (kn_dec tX7_pass 35 rfl) rfl (lv_at hl 4 rfl) ?_
          refine lv_iload hx hb (kn_dec tX7_pass 36 rfl) (lv_at hl 6 rfl) ?_
          refine kw_callv (wc := [(kHill, ad_h, _), (kState, ad_s, _)]) (wr := [(kWalk, ad_w, _), (kRule, ad_u, _)]) I hA [1, 3] [0, 2] rfl rfl (by decide) (by decide) (kn_runS (As := [.ref (ad_h 0), .ref (ad_s 0), .int _]) S0 hK hZ hA I ((ctX7_swap h).met _) (kn_cwS 3 hts q4_3 q4_4 q1_9 q4_5 rfl rfl (by decide +kernel) ⟨(Nat.le_of_ble_eq_true rfl), (Nat.le_of_ble_eq_true rfl)⟩) [1, 3] rfl (by decide) rfl hl.1 rfl (Nat.le_of_ble_eq_true rfl) (kn_dec tX7_pass 37 rfl) ⟨(Nat.le_of_ble_eq_true rfl), (Nat.le_of_ble_eq_true rfl)⟩) (fun u25 H locs h I => ?_)
          have I : kn_I D tc (kn_A w0 s.heap.size) s.heap [(kWalk, ad_w, _), (kHill, ad_h, _), (kRule, ad_u, _), (kState, ad_s, _)] _ _ := I.sub [0, 2, 1, 3] (by decide) rfl
          refine lv_aload_n hx hb (kn_dec tX7_pass 38 rfl) rfl (lv_at hl 2 rfl) ?_
          refine lv_aload_n hx hb (kn_dec tX7_pass 39 rfl) rfl (lv_at hl 4 rfl) ?_
          refine lv_aload_n hx hb (kn_dec tX7_pass 40 rfl) rfl (lv_at hl 2 rfl) ?_
          refine kw_getl hx hb hts inX0 hown hK I 1 rfl rfl 15 (by decide) rfl (hts _ q1_169) (kn_dec tX7_pass 41 rfl) rfl ?_
          refine lv_iload hx hb (kn_dec tX7_pass 42 rfl) (lv_at hl 6 rfl) ?_
          obtain ⟨hs26, h⟩ := h
          refine kw_iald hx hb hK I 1 rfl 15 4 (List.mem_of_getElem? (i := 7) rfl) hs26 (kn_dec tX7_pass 43 rfl) ?_
          refine kw_callv (wc := [(kHill, ad_h, _), (kState, ad_s, _)]) (wr := [(kWalk, ad_w, _), (kRule, ad_u, _)]) I hA [1, 3] [0, 2] rfl rfl (by decide) (by decide) (kn_runS (As := [.ref (ad_h 0), .ref (ad_s 0), .int _]) S0 hK hZ hA I ((ctX7_putBack h).met _) (kn_cwS 3 hts q4_6 q4_7 q1_9 q4_8 rfl rfl (by decide +kernel) ⟨(Nat.le_of_ble_eq_true rfl), (Nat.le_of_ble_eq_true rfl)⟩) [1, 3] rfl (by decide) rfl hl.1 rfl (Nat.le_of_ble_eq_true rfl) (kn_dec tX7_pass 44 rfl) ⟨(Nat.le_of_ble_eq_true rfl), (Nat.le_of_ble_eq_true rfl)⟩) (fun u28 H locs h I => ?_)
          have I : kn_I D tc (kn_A w0 s.heap.size) s.heap [(kWalk, ad_w, _), (kHill, ad_h, _), (kRule, ad_u, _), (kState, ad_s, _)] _ _ := I.sub [0, 2, 1, 3] (by decide) rfl
          refine lv_goto (tgt := 106) hx hb (kn_dec tX7_pass 45 rfl) (by decide) ?_
          refine kw_iinc (lvf := fun y => [(6, .int y), (5, .int _), (0, .ref (ad_w 0)), (1, .ref (ad_h 0)), (2, .ref (ad_u 0)), (3, .ref (ad_s 0)), (4, .int _)]) (nv := (1)) hx hb (kn_dec tX7_pass 58 rfl) hl (k := 6) rfl (by decide) (by decide) (fun _ => rfl) (fun x29 ex29 ls hl => ?_)
          have h := h x29 ex29
          refine lv_goto (tgt := 6) hx hb (kn_dec tX7_pass 59 rfl) (by decide) ?_
          exact ih _ _ _ _ _ _ _ _ _ hz_y4 I (lv_sub hl [2, 3, 4, 5, 6, 1, 0] rfl) h
def PX7_pass_R  (v_w : OV) (v_h : OV) (v_u : OV) (v_s : OV) (a4 : Int32) (post : Int32 → OV → OV → OV → Prop) : Prop := (∃ n1 : Nat, PX7_pass_R_L6 v_h post n1 a4 ((0 : Int32)) ((0 : Int32)) v_w v_u v_s)
set_option maxRecDepth 100000 in
set_option maxHeartbeats 1000000 in
theorem ctX7_pass_R {l : Launch} {D : va_G} {tc : Nat → ClassId} {Z : (Nat → Nat) × (Nat → Nat)}  {ad_w : Nat → Nat} {ad_h : Nat → Nat} {ad_u : Nat → Nat} {ad_s : Nat → Nat} {v_w : OV} {v_h : OV} {v_u : OV} {v_s : OV} {a4 : Int32}   (hz_a4 : a4 = 0 ∨ a4 = 1) {post : Int32 → OV → OV → OV → Prop} (h : PX7_pass_R  v_w v_h v_u v_s a4 post) : CTi l D tc Z yX7_pass (Cond.code yX7_pass cX7_pass 7 (some .int) :: kn_all) rmX7_pass_R 0 0 [.ref (ad_w 0), .ref (ad_h 0), .ref (ad_u 0), .ref (ad_s 0), .int a4] [(kWalk, ad_w, v_w), (kHill, ad_h, v_h), (kRule, ad_u, v_u), (kState, ad_s, v_s)] (fun (u : OV × OV × OV) => [(kWalk, ad_w, u.1), (kHill, ad_h, v_h), (kRule, ad_u, u.2.1), (kState, ad_s, u.2.2)]) (fun (r : Int32) (u : OV × OV × OV) => post r u.1 u.2.1 u.2.2) := by
  refine kn_ofi (cc := cX7_pass) (nL := 7) (ret := (some .int)) (lv := [(0, .ref (ad_w 0)), (1, .ref (ad_h 0)), (2, .ref (ad_u 0)), (3, .ref (ad_s 0)), (4, .int a4)]) (by decide) (Nat.le_of_ble_eq_true rfl) rfl (fun p e s m below meth c ls X I hl _ => ?_)
  obtain ⟨S0, hr, hlocks, hK, hZ, hA⟩ := id X
  obtain ⟨hx, hb, hml, hown, hts⟩ := id S0
  unfold PX7_pass_R at h
  refine lv_iconst (v := (0)) hx hb (kn_dec tX7_pass 0 rfl) (by decide) ?_
  refine lv_istore (lv' := [(5, .int _), (0, .ref (ad_w 0)), (1, .ref (ad_h 0)), (2, .ref (ad_u 0)), (3, .ref (ad_s 0)), (4, .int _)]) hx hb (kn_dec tX7_pass 1 rfl) hl (by decide) rfl (fun ls hl => ?_)
  refine lv_iconst (v := (0)) hx hb (kn_dec tX7_pass 2 rfl) (by decide) ?_
  refine lv_istore (lv' := [(6, .int _), (5, .int _), (0, .ref (ad_w 0)), (1, .ref (ad_h 0)), (2, .ref (ad_u 0)), (3, .ref (ad_s 0)), (4, .int _)]) hx hb (kn_dec tX7_pass 3 rfl) hl (by decide) rfl (fun ls hl => ?_)
  obtain ⟨n1, h⟩ := h
  exact wX7_pass_R_L6 X n1 _ _ _ _ _ _ _ _ _ hz_a4 I (lv_sub hl [2, 3, 4, 5, 6, 1, 0] rfl) h

/-! X4_comparison -/
abbrev rmX4_comparison : Room := { frames := 0, cells := 0, slots := 0, locals := 0 }
def PX4_comparison  (a0 : Int32) (a1 : Int32) (post : Int32 → Prop) : Prop := ((a0 = (60 : Int32) → ((¬ a1 = ((61 : Int32)) → post ((-20 : Int32))) ∧ (a1 = ((61 : Int32)) → post ((-21 : Int32))))) ∧ (¬ a0 = (60 : Int32) → ((a0 = (61 : Int32) → post ((-22 : Int32))) ∧ (¬ a0 = (61 : Int32) → ((a0 = (62 : Int32) → ((¬ a1 = ((61 : Int32)) → post ((-24 : Int32))) ∧ (a1 = ((61 : Int32)) → post ((-23 : Int32))))) ∧ (¬ a0 = (62 : Int32) → post ((0 : Int32))))))))
set_option maxRecDepth 100000 in
set_option maxHeartbeats 1000000 in
theorem ctX4_comparison {l : Launch} {D : va_G} {tc : Nat → ClassId} {Z : (Nat → Nat) × (Nat → Nat)}   {a0 : Int32} {a1 : Int32}    {post : Int32 → Prop} (h : PX4_comparison  a0 a1 post) : CTi l D tc Z yX4_comparison (Cond.code yX4_comparison cX4_comparison 2 (some .int) :: kn_all) rmX4_comparison 0 0 [.int a0, .int a1] [] (fun (u : Unit) => []) (fun (r : Int32) (u : Unit) => post r) := by
  refine kn_ofi (cc := cX4_comparison) (nL := 2) (ret := (some .int)) (lv := [(0, .int a0), (1, .int a1)]) (by decide) (Nat.le_of_ble_eq_true rfl) rfl (fun p e s m below meth c ls X I hl _ => ?_)
  obtain ⟨S0, hr, hlocks, hK, hZ, hA⟩ := id X
  obtain ⟨hx, hb, hml, hown, hts⟩ := id S0
  unfold PX4_comparison at h
  refine lv_iload_n hx hb (kn_dec tX4_comparison 0 rfl) rfl (lv_at hl 0 rfl) ?_
  rcases Classical.em (a0 = (60 : Int32)) with c1 | c1
  · have h := h.1 c1
    refine lv_tableIn (off := 27) (tgt := 28) hx hb (kn_dec tX4_comparison 1 rfl) (by rw [c1]; decide) (by rw [c1]; decide) (by rw [c1]; rfl) (by decide) ?_
    refine lv_iload_n hx hb (kn_dec tX4_comparison 2 rfl) rfl (lv_at hl 1 rfl) ?_
    refine lv_bipush (v := (61)) hx hb (kn_dec tX4_comparison 3 rfl) (by decide) ?_
    refine lv_icmp_ne (tgt := 39) hx hb (kn_dec tX4_comparison 4 rfl) (by decide) (fun c2 => ?_) (fun c2 => ?_)
    · have h := h.1 c2
      refine lv_bipush (v := (-20)) hx hb (kn_dec tX4_comparison 7 rfl) (by decide) ?_
      exact kw_iret hx hb hr hlocks I () rfl h (kn_dec tX4_comparison 8 rfl)
    · have h := h.2 c2
      refine lv_bipush (v := (-21)) hx hb (kn_dec tX4_comparison 5 rfl) (by decide) ?_
      refine lv_goto (tgt := 41) hx hb (kn_dec tX4_comparison 6 rfl) (by decide) ?_
      exact kw_iret hx hb hr hlocks I () rfl h (kn_dec tX4_comparison 8 rfl)
  · have h := h.2 c1
    rcases Classical.em (a0 = (61 : Int32)) with c3 | c3
    · have h := h.1 c3
      refine lv_tableIn (off := 41) (tgt := 42) hx hb (kn_dec tX4_comparison 1 rfl) (by rw [c3]; decide) (by rw [c3]; decide) (by rw [c3]; rfl) (by decide) ?_
      refine lv_bipush (v := (-22)) hx hb (kn_dec tX4_comparison 9 rfl) (by decide) ?_
      exact kw_iret hx hb hr hlocks I () rfl h (kn_dec tX4_comparison 10 rfl)
    · have h := h.2 c3
      rcases Classical.em (a0 = (62 : Int32)) with c4 | c4
      · have h := h.1 c4
        refine lv_tableIn (off := 44) (tgt := 45) hx hb (kn_dec tX4_comparison 1 rfl) (by rw [c4]; decide) (by rw [c4]; decide) (by rw [c4]; rfl) (by decide) ?_
        refine lv_iload_n hx hb (kn_dec tX4_comparison 11 rfl) rfl (lv_at hl 1 rfl) ?_
        refine lv_bipush (v := (61)) hx hb (kn_dec tX4_comparison 12 rfl) (by decide) ?_
        refine lv_icmp_ne (tgt := 56) hx hb (kn_dec tX4_comparison 13 rfl) (by decide) (fun c5 => ?_) (fun c5 => ?_)
        · have h := h.1 c5
          refine lv_bipush (v := (-24)) hx hb (kn_dec tX4_comparison 16 rfl) (by decide) ?_
          exact kw_iret hx hb hr hlocks I () rfl h (kn_dec tX4_comparison 17 rfl)
        · have h := h.2 c5
          refine lv_bipush (v := (-23)) hx hb (kn_dec tX4_comparison 14 rfl) (by decide) ?_
          refine lv_goto (tgt := 58) hx hb (kn_dec tX4_comparison 15 rfl) (by decide) ?_
          exact kw_iret hx hb hr hlocks I () rfl h (kn_dec tX4_comparison 17 rfl)
      · have h := h.2 c4
        refine lv_tableOut (tgt := 59) hx hb (kn_dec tX4_comparison 1 rfl) (by have z0 := kn_nei (k := 60) c1 (by decide); have z1 := kn_nei (k := 61) c3 (by decide); have z2 := kn_nei (k := 62) c4 (by decide); omega) (by decide) ?_
        refine lv_iconst (v := (0)) hx hb (kn_dec tX4_comparison 18 rfl) (by decide) ?_
        exact kw_iret hx hb hr hlocks I () rfl h (kn_dec tX4_comparison 19 rfl)

/-! X4_multiplier -/
abbrev rmX4_multiplier : Room := { frames := 0, cells := 0, slots := 0, locals := 0 }
def PX4_multiplier  (a0 : Int32) (post : Int32 → Prop) : Prop := ((a0 = (37 : Int32) → post ((-19 : Int32))) ∧ (¬ a0 = (37 : Int32) → ((a0 = (42 : Int32) → post ((-17 : Int32))) ∧ (¬ a0 = (42 : Int32) → ((a0 = (47 : Int32) → post ((-18 : Int32))) ∧ (¬ a0 = (47 : Int32) → post ((0 : Int32))))))))
set_option maxRecDepth 100000 in
set_option maxHeartbeats 1000000 in
theorem ctX4_multiplier {l : Launch} {D : va_G} {tc : Nat → ClassId} {Z : (Nat → Nat) × (Nat → Nat)}   {a0 : Int32}    {post : Int32 → Prop} (h : PX4_multiplier  a0 post) : CTi l D tc Z yX4_multiplier (Cond.code yX4_multiplier cX4_multiplier 1 (some .int) :: kn_all) rmX4_multiplier 0 0 [.int a0] [] (fun (u : Unit) => []) (fun (r : Int32) (u : Unit) => post r) := by
  refine kn_ofi (cc := cX4_multiplier) (nL := 1) (ret := (some .int)) (lv := [(0, .int a0)]) (by decide) (Nat.le_of_ble_eq_true rfl) rfl (fun p e s m below meth c ls X I hl _ => ?_)
  obtain ⟨S0, hr, hlocks, hK, hZ, hA⟩ := id X
  obtain ⟨hx, hb, hml, hown, hts⟩ := id S0
  unfold PX4_multiplier at h
  refine lv_iload_n hx hb (kn_dec tX4_multiplier 0 rfl) rfl (lv_at hl 0 rfl) ?_
  rcases Classical.em (a0 = (37 : Int32)) with c1 | c1
  · have h := h.1 c1
    refine lv_lookup (off := 41) (tgt := 42) hx hb (kn_dec tX4_multiplier 1 rfl) (by decide) (by rw [c1]; decide) (by decide) ?_
    refine lv_bipush (v := (-19)) hx hb (kn_dec tX4_multiplier 6 rfl) (by decide) ?_
    exact kw_iret hx hb hr hlocks I () rfl h (kn_dec tX4_multiplier 7 rfl)
  · have h := h.2 c1
    rcases Classical.em (a0 = (42 : Int32)) with c2 | c2
    · have h := h.1 c2
      refine lv_lookup (off := 35) (tgt := 36) hx hb (kn_dec tX4_multiplier 1 rfl) (by decide) (by rw [c2]; decide) (by decide) ?_
      refine lv_bipush (v := (-17)) hx hb (kn_dec tX4_multiplier 2 rfl) (by decide) ?_
      exact kw_iret hx hb hr hlocks I () rfl h (kn_dec tX4_multiplier 3 rfl)
    · have h := h.2 c2
      rcases Classical.em (a0 = (47 : Int32)) with c3 | c3
      · have h := h.1 c3
        refine lv_lookup (off := 38) (tgt := 39) hx hb (kn_dec tX4_multiplier 1 rfl) (by decide) (by rw [c3]; decide) (by decide) ?_
        refine lv_bipush (v := (-18)) hx hb (kn_dec tX4_multiplier 4 rfl) (by decide) ?_
        exact kw_iret hx hb hr hlocks I () rfl h (kn_dec tX4_multiplier 5 rfl)
      · have h := h.2 c3
        refine lv_lookup (off := 44) (tgt := 45) hx hb (kn_dec tX4_multiplier 1 rfl) (by decide) (by have z0 := kn_nei (k := 37) c1 (by decide); have z1 := kn_nei (k := 42) c2 (by decide); have z2 := kn_nei (k := 47) c3 (by decide); simp [Op.lookupswitch.offset, Ne.symm z0, Ne.symm z1, Ne.symm z2]) (by decide) ?_
        refine lv_iconst (v := (0)) hx hb (kn_dec tX4_multiplier 8 rfl) (by decide) ?_
        exact kw_iret hx hb hr hlocks I () rfl h (kn_dec tX4_multiplier 9 rfl)

/-! X4_adder -/
abbrev rmX4_adder : Room := { frames := 0, cells := 0, slots := 0, locals := 0 }
def PX4_adder  (a0 : Int32) (post : Int32 → Prop) : Prop := ((a0 = (43 : Int32) → post ((-15 : Int32))) ∧ (¬ a0 = (43 : Int32) → ((a0 = (45 : Int32) → post ((-16 : Int32))) ∧ (¬ a0 = (45 : Int32) → post ((0 : Int32))))))
set_option maxRecDepth 100000 in
set_option maxHeartbeats 1000000 in
theorem ctX4_adder {l : Launch} {D : va_G} {tc : Nat → ClassId} {Z : (Nat → Nat) × (Nat → Nat)}   {a0 : Int32}    {post : Int32 → Prop} (h : PX4_adder  a0 post) : CTi l D tc Z yX4_adder (Cond.code yX4_adder cX4_adder 1 (some .int) :: kn_all) rmX4_adder 0 0 [.int a0] [] (fun (u : Unit) => []) (fun (r : Int32) (u : Unit) => post r) := by
  refine kn_ofi (cc := cX4_adder) (nL := 1) (ret := (some .int)) (lv := [(0, .int a0)]) (by decide) (Nat.le_of_ble_eq_true rfl) rfl (fun p e s m below meth c ls X I hl _ => ?_)
  obtain ⟨S0, hr, hlocks, hK, hZ, hA⟩ := id X
  obtain ⟨hx, hb, hml, hown, hts⟩ := id S0
  unfold PX4_adder at h
  refine lv_iload_n hx hb (kn_dec tX4_adder 0 rfl) rfl (lv_at hl 0 rfl) ?_
  rcases Classical.em (a0 = (43 : Int32)) with c1 | c1
  · have h := h.1 c1
    refine lv_lookup (off := 27) (tgt := 28) hx hb (kn_dec tX4_adder 1 rfl) (by decide) (by rw [c1]; decide) (by decide) ?_
    refine lv_bipush (v := (-15)) hx hb (kn_dec tX4_adder 2 rfl) (by decide) ?_
    exact kw_iret hx hb hr hlocks I () rfl h (kn_dec tX4_adder 3 rfl)
  · have h := h.2 c1
    rcases Classical.em (a0 = (45 : Int32)) with c2 | c2
    · have h := h.1 c2
      refine lv_lookup (off := 30) (tgt := 31) hx hb (kn_dec tX4_adder 1 rfl) (by decide) (by rw [c2]; decide) (by decide) ?_
      refine lv_bipush (v := (-16)) hx hb (kn_dec tX4_adder 4 rfl) (by decide) ?_
      exact kw_iret hx hb hr hlocks I () rfl h (kn_dec tX4_adder 5 rfl)
    · have h := h.2 c2
      refine lv_lookup (off := 33) (tgt := 34) hx hb (kn_dec tX4_adder 1 rfl) (by decide) (by have z0 := kn_nei (k := 43) c1 (by decide); have z1 := kn_nei (k := 45) c2 (by decide); simp [Op.lookupswitch.offset, Ne.symm z0, Ne.symm z1]) (by decide) ?_
      refine lv_iconst (v := (0)) hx hb (kn_dec tX4_adder 6 rfl) (by decide) ?_
      exact kw_iret hx hb hr hlocks I () rfl h (kn_dec tX4_adder 7 rfl)

/-! X4_countAt -/
abbrev rmX4_countAt : Room := { frames := 1, cells := 0, slots := 0, locals := 22 }
def PX4_countAt  (v_q : OV) (v_r : OV) (v_u : OV) (v_t : OV) (a1 : Int32) (post : OV → OV → Prop) : Prop := (∀ x1 : Int32, x1 = ((v_q.1 2) + ((1 : Int32))) → (∀ v_q2 : OV, v_q2 = si v_q 2 x1 → (((v_q2.1 2) ≤ ((60 : Int32)) → post v_q2 v_r) ∧ (¬ (v_q2.1 2) ≤ ((60 : Int32)) → (PX2_failAt v_r v_t a1 ((3 : Int32)) (fun v_r4 => post v_q2 v_r4))))))
set_option maxRecDepth 100000 in
set_option maxHeartbeats 1000000 in
theorem ctX4_countAt {l : Launch} {D : va_G} {tc : Nat → ClassId} {Z : (Nat → Nat) × (Nat → Nat)}  {ad_q : Nat → Nat} {ad_r : Nat → Nat} {ad_u : Nat → Nat} {ad_t : Nat → Nat} {v_q : OV} {v_r : OV} {v_u : OV} {v_t : OV} {a1 : Int32} (e_r_0 : ad_r (0 + 1) = ad_t (0 + 1)) (e_q_0 : ad_q (0 + 1) = ad_r 0) (e_q_1 : ad_q (1 + 1) = ad_u 0)   {post : OV → OV → Prop} (h : PX4_countAt  v_q v_r v_u v_t a1 post) : CTv l D tc Z yX4_countAt (Cond.code yX4_countAt cX4_countAt 2 none :: kn_all) rmX4_countAt 0 0 [.ref (ad_q 0), .int a1] [(kRuleReader, ad_q, v_q), (kReader, ad_r, v_r), (kRule, ad_u, v_u), (kTin, ad_t, v_t)] (fun (u : OV × OV) => [(kRuleReader, ad_q, u.1), (kReader, ad_r, u.2), (kRule, ad_u, v_u), (kTin, ad_t, v_t)]) (fun (u : OV × OV) => post u.1 u.2) := by
  refine kn_ofv (cc := cX4_countAt) (nL := 2) (ret := none) (lv := [(0, .ref (ad_q 0)), (1, .int a1)]) (by decide) (Nat.le_of_ble_eq_true rfl) rfl (fun p e s m below meth c ls X I hl _ => ?_)
  obtain ⟨S0, hr, hlocks, hK, hZ, hA⟩ := id X
  obtain ⟨hx, hb, hml, hown, hts⟩ := id S0
  unfold PX4_countAt at h
  refine lv_aload_n hx hb (kn_dec tX4_countAt 0 rfl) rfl (lv_at hl 0 rfl) ?_
  refine lv_dup hx hb (kn_dec tX4_countAt 1 rfl) rfl ?_
  refine kw_geti hx hb hts inX4 hown hK I 0 rfl rfl 2 (by decide) rfl (hts _ q1_96) (kn_dec tX4_countAt 2 rfl) ?_
  refine lv_iconst (v := (1)) hx hb (kn_dec tX4_countAt 3 rfl) (by decide) ?_
  refine lv_iadd hx hb (kn_dec tX4_countAt 4 rfl) ?_
  refine lv_topi (fun x1 ex1 => ?_)
  have h := h x1 ex1
  refine kw_puti hx hb hts inX4 tyX4 tyX4_ok nmX4 hown hK I 0 rfl rfl 2 (by decide) rfl (hts _ q1_96) rfl rfl rfl (kn_dec tX4_countAt 5 rfl) (fun v_q2 ev_q2 H locs I => ?_)
  have h := h v_q2 ev_q2
  have I : kn_I D tc (kn_A _ s.heap.size) s.heap [(kRuleReader, ad_q, _), (kReader, ad_r, _), (kRule, ad_u, _), (kTin, ad_t, _)] _ _ := I
  refine lv_aload_n hx hb (kn_dec tX4_countAt 6 rfl) rfl (lv_at hl 0 rfl) ?_
  refine kw_geti hx hb hts inX4 hown hK I 0 rfl rfl 2 (by decide) rfl (hts _ q1_96) (kn_dec tX4_countAt 7 rfl) ?_
  refine lv_bipush (v := (60)) hx hb (kn_dec tX4_countAt 8 rfl) (by decide) ?_
  refine lv_icmp_le (tgt := 28) hx hb (kn_dec tX4_countAt 9 rfl) (by decide) (fun c3 => ?_) (fun c3 => ?_)
  · have h := h.1 c3
    exact kw_vret hx hb hr hlocks I (v_q2, v_r) rfl h (kn_dec tX4_countAt 15 rfl)
  · have h := h.2 c3
    refine lv_aload_n hx hb (kn_dec tX4_countAt 10 rfl) rfl (lv_at hl 0 rfl) ?_
    refine kw_getl hx hb hts inX4 hown hK I 0 rfl rfl 0 (by decide) rfl (hts _ q1_94) (kn_dec tX4_countAt 11 rfl) e_q_0 ?_
    refine lv_iload_n hx hb (kn_dec tX4_countAt 12 rfl) rfl (lv_at hl 1 rfl) ?_
    refine lv_iconst (v := (3)) hx hb (kn_dec tX4_countAt 13 rfl) (by decide) ?_
    refine kw_callv (wc := [(kReader, ad_r, _), (kTin, ad_t, _)]) (wr := [(kRuleReader, ad_q, _), (kRule, ad_u, _)]) I hA [1, 3] [0, 2] rfl rfl (by decide) (by decide) (kn_runV (As := [.int _, .int _]) S0 hK hZ hA I ((ctX2_failAt e_r_0 h).met _) (kn_cwV 2 hts q3_62 q2_235 q2_236 q1_3 q2_237 rfl rfl (by decide +kernel) ⟨(Nat.le_of_ble_eq_true rfl), (Nat.le_of_ble_eq_true rfl)⟩) [1, 3] rfl (by decide) 1 rfl rfl rfl rfl hl.1 rfl (Nat.le_of_ble_eq_true rfl) (kn_dec tX4_countAt 14 rfl) ⟨(Nat.le_of_ble_eq_true rfl), (Nat.le_of_ble_eq_true rfl)⟩) (fun u5 H locs h I => ?_)
    have I : kn_I D tc (kn_A _ s.heap.size) s.heap [(kRuleReader, ad_q, _), (kReader, ad_r, _), (kRule, ad_u, _), (kTin, ad_t, _)] _ _ := I.sub [0, 2, 1, 3] (by decide) rfl
    exact kw_vret hx hb hr hlocks I (v_q2, u5) rfl h (kn_dec tX4_countAt 15 rfl)

/-! X4_readValue -/
abbrev rmX4_readValue : Room := { frames := 6, cells := 0, slots := 0, locals := 134 }
def PX4_readValue_b94 (v_t : OV)  (post : OV → OV → OV → Prop) (y2 : Int32) (v_q : OV) (v_r : OV) (v_u : OV) : Prop := (PX4_countAt v_q v_r v_u v_t y2 (fun v_q1 v_r2 => post v_q1 v_r2 v_u))
set_option maxRecDepth 100000 in
set_option maxHeartbeats 1000000 in
theorem wX4_readValue_b94 {v_t : OV}  {post : OV → OV → OV → Prop} {ad_q : Nat → Nat} {ad_r : Nat → Nat} {ad_u : Nat → Nat} {ad_t : Nat → Nat} (X : kn_X p s m args meth c cX4_readValue 4 none RX4 kn_all D tc Z (kn_A w0 s.heap.size)) (e_r_0 : ad_r (0 + 1) = ad_t (0 + 1)) (e_q_0 : ad_q (0 + 1) = ad_r 0) (e_q_1 : ad_q (1 + 1) = ad_u 0)   : ∀ (H : Heap) (locs : List Loc) (ls : Array Slot) (y2 : Int32) (v_q : OV) (v_r : OV) (v_u : OV), kn_I D tc (kn_A w0 s.heap.size) s.heap [(kRuleReader, ad_q, v_q), (kReader, ad_r, v_r), (kRule, ad_u, v_u), (kTin, ad_t, v_t)] H locs → lv_has ls 4 [(0, .ref (ad_q 0)), (2, .int y2)] → PX4_readValue_b94 v_t post y2 v_q v_r v_u → W p l e rmX4_readValue s m args below meth c H locs 0 0 (kn_Qv D tc w0 (fun (u : OV × OV × OV) => [(kRuleReader, ad_q, u.1), (kReader, ad_r, u.2.1), (kRule, ad_u, u.2.2), (kTin, ad_t, v_t)]) (fun (u : OV × OV × OV) => post u.1 u.2.1 u.2.2) below args s 0 0) (F0 m 94 ls []) := by
  obtain ⟨S0, hr, hlocks, hK, hZ, hA⟩ := id X
  obtain ⟨hx, hb, hml, hown, hts⟩ := id S0
  intro H locs ls y2 v_q v_r v_u I hl h
  unfold PX4_readValue_b94 at h
  refine lv_aload_n hx hb (kn_dec tX4_readValue 46 rfl) rfl (lv_at hl 0 rfl) ?_
  refine lv_iload_n hx hb (kn_dec tX4_readValue 47 rfl) rfl (lv_at hl 1 rfl) ?_
  refine kw_callv (wc := [(kRuleReader, ad_q, _), (kReader, ad_r, _), (kRule, ad_u, _), (kTin, ad_t, _)]) (wr := []) I hA [0, 1, 2, 3] [] rfl rfl (by decide) (by decide) (kn_runV (As := [.int _]) S0 hK hZ hA I ((ctX4_countAt e_r_0 e_q_0 e_q_1 h).met _) (kn_cwV 1 hts q3_87 q3_89 q0_8 q1_4 q3_90 rfl rfl (by decide +kernel) ⟨(Nat.le_of_ble_eq_true rfl), (Nat.le_of_ble_eq_true rfl)⟩) [0, 1, 2, 3] rfl (by decide) 0 rfl rfl rfl rfl hl.1 rfl (Nat.le_of_ble_eq_true rfl) (kn_dec tX4_readValue 48 rfl) ⟨(Nat.le_of_ble_eq_true rfl), (Nat.le_of_ble_eq_true rfl)⟩) (fun u3 H locs h I => ?_)
  have I : kn_I D tc (kn_A w0 s.heap.size) s.heap [(kRuleReader, ad_q, _), (kReader, ad_r, _), (kRule, ad_u, _), (kTin, ad_t, _)] _ _ := I
  exact kw_vret hx hb hr hlocks I (u3.1, u3.2, v_u) rfl h (kn_dec tX4_readValue 49 rfl)
def PX4_readValue  (v_q : OV) (v_r : OV) (v_u : OV) (v_t : OV) (post : OV → OV → OV → Prop) : Prop := (PX2_next v_r v_t (fun r2 v_r1 => (PX2_isDigit r2 (fun r4 => (∀ x6 : Int32, x6 = (v_r1.1 2) → (PX2_word v_r1 v_t 6 (fun r8 v_r7 => ((r4 = ((0 : Int32)) → ((r8 = ((-1 : Int32)) → (PX2_failAt v_r7 v_t x6 ((0 : Int32)) (fun v_r12 => PX4_readValue_b94 v_t post x6 v_q v_r12 v_u))) ∧ (¬ r8 = ((-1 : Int32)) → (PX3_put v_u (((-1 : Int32)) - r8) (fun v_u14 => (PX2_wordSize v_r7 v_t (fun r16 => (PX2_pass v_r7 v_t r16 (fun v_r18 => PX4_readValue_b94 v_t post x6 v_q v_r18 v_u14))))))))) ∧ (¬ r4 = ((0 : Int32)) → (PX2_number v_r7 v_t ((0 : Int32)) ((99999 : Int32)) (fun r21 v_r20 => (PX3_put v_u r21 (fun v_u23 => PX4_readValue_b94 v_t post x6 v_q v_r20 v_u23)))))))))))))
set_option maxRecDepth 100000 in
set_option maxHeartbeats 1000000 in
theorem ctX4_readValue {l : Launch} {D : va_G} {tc : Nat → ClassId} {Z : (Nat → Nat) × (Nat → Nat)}  {ad_q : Nat → Nat} {ad_r : Nat → Nat} {ad_u : Nat → Nat} {ad_t : Nat → Nat} {v_q : OV} {v_r : OV} {v_u : OV} {v_t : OV} (e_r_0 : ad_r (0 + 1) = ad_t (0 + 1)) (e_q_0 : ad_q (0 + 1) = ad_r 0) (e_q_1 : ad_q (1 + 1) = ad_u 0)   {post : OV → OV → OV → Prop} (h : PX4_readValue  v_q v_r v_u v_t post) : CTv l D tc Z yX4_readValue (Cond.code yX4_readValue cX4_readValue 4 none :: kn_all) rmX4_readValue 0 0 [.ref (ad_q 0)] [(kRuleReader, ad_q, v_q), (kReader, ad_r, v_r), (kRule, ad_u, v_u), (kTin, ad_t, v_t)] (fun (u : OV × OV × OV) => [(kRuleReader, ad_q, u.1), (kReader, ad_r, u.2.1), (kRule, ad_u, u.2.2), (kTin, ad_t, v_t)]) (fun (u : OV × OV × OV) => post u.1 u.2.1 u.2.2) := by
  refine kn_ofv (cc := cX4_readValue) (nL := 4) (ret := none) (lv := [(0, .ref (ad_q 0))]) (by decide) (Nat.le_of_ble_eq_true rfl) rfl (fun p e s m below meth c ls X I hl _ => ?_)
  obtain ⟨S0, hr, hlocks, hK, hZ, hA⟩ := id X
  obtain ⟨hx, hb, hml, hown, hts⟩ := id S0
  unfold PX4_readValue at h
  refine lv_aload_n hx hb (kn_dec tX4_readValue 0 rfl) rfl (lv_at hl 0 rfl) ?_
  refine kw_getl hx hb hts inX4 hown hK I 0 rfl rfl 0 (by decide) rfl (hts _ q1_94) (kn_dec tX4_readValue 1 rfl) e_q_0 ?_
  refine kw_calli (wc := [(kReader, ad_r, _), (kTin, ad_t, _)]) (wr := [(kRuleReader, ad_q, _), (kRule, ad_u, _)]) I hA [1, 3] [0, 2] rfl rfl (by decide) (by decide) (kn_runV (As := []) S0 hK hZ hA I ((ctX2_next e_r_0 h).met _) (kn_cwV 0 hts q3_76 q2_175 q2_176 q1_3 q2_177 rfl rfl (by decide +kernel) ⟨(Nat.le_of_ble_eq_true rfl), (Nat.le_of_ble_eq_true rfl)⟩) [1, 3] rfl (by decide) 1 rfl rfl rfl rfl hl.1 rfl (Nat.le_of_ble_eq_true rfl) (kn_dec tX4_readValue 2 rfl) ⟨(Nat.le_of_ble_eq_true rfl), (Nat.le_of_ble_eq_true rfl)⟩) (fun r2 u3 H locs h I => ?_)
  have I : kn_I D tc (kn_A _ s.heap.size) s.heap [(kRuleReader, ad_q, _), (kReader, ad_r, _), (kRule, ad_u, _), (kTin, ad_t, _)] _ _ := I.sub [0, 2, 1, 3] (by decide) rfl
  refine kw_calli (wc := []) (wr := [(kRuleReader, ad_q, _), (kReader, ad_r, _), (kRule, ad_u, _), (kTin, ad_t, _)]) I hA [] [0, 1, 2, 3] rfl rfl (by decide) (by decide) (kn_runS (As := [.int _]) S0 hK hZ hA I ((ctX2_isDigit h).met _) (kn_cwS 1 hts q3_77 q3_15 q1_3 q3_16 rfl rfl (by decide +kernel) ⟨(Nat.le_of_ble_eq_true rfl), (Nat.le_of_ble_eq_true rfl)⟩) [] rfl (by decide) rfl hl.1 rfl (Nat.le_of_ble_eq_true rfl) (kn_dec tX4_readValue 3 rfl) ⟨(Nat.le_of_ble_eq_true rfl), (Nat.le_of_ble_eq_true rfl)⟩) (fun r4 u5 H locs h I => ?_)
  obtain ⟨hz_r4, h⟩ := h
  have I : kn_I D tc (kn_A _ s.heap.size) s.heap [(kRuleReader, ad_q, _), (kReader, ad_r, _), (kRule, ad_u, _), (kTin, ad_t, _)] _ _ := I
  refine lv_istore_n (lv' := [(1, .int _), (0, .ref (ad_q 0))]) hx hb (kn_dec tX4_readValue 4 rfl) rfl hl (by decide) rfl (fun ls hl => ?_)
  refine lv_aload_n hx hb (kn_dec tX4_readValue 5 rfl) rfl (lv_at hl 1 rfl) ?_
  refine kw_getl hx hb hts inX4 hown hK I 0 rfl rfl 0 (by decide) rfl (hts _ q1_94) (kn_dec tX4_readValue 6 rfl) e_q_0 ?_
  refine kw_geti hx hb hts inX2 hown hK I 1 rfl rfl 2 (by decide) rfl (hts _ q1_42) (kn_dec tX4_readValue 7 rfl) ?_
  refine lv_topi (fun x6 ex6 => ?_)
  have h := h x6 ex6
  refine lv_istore_n (lv' := [(2, .int _), (1, .int _), (0, .ref (ad_q 0))]) hx hb (kn_dec tX4_readValue 8 rfl) rfl hl (by decide) rfl (fun ls hl => ?_)
  refine lv_aload_n hx hb (kn_dec tX4_readValue 9 rfl) rfl (lv_at hl 2 rfl) ?_
  refine kw_getl hx hb hts inX4 hown hK I 0 rfl rfl 0 (by decide) rfl (hts _ q1_94) (kn_dec tX4_readValue 10 rfl) e_q_0 ?_
  refine va_ldcS hx hb hown (hZ.1 6 _ rfl).1 (kn_dec tX4_readValue 11 rfl) ?_
  refine kw_calli (wc := [(kReader, ad_r, _), (kTin, ad_t, _)]) (wr := [(kRuleReader, ad_q, _), (kRule, ad_u, _)]) I hA [1, 3] [0, 2] rfl rfl (by decide) (by decide) (kn_runV (As := [.ref (Z.1 6)]) S0 hK hZ hA I ((ctX2_word e_r_0 h).met _) (kn_cwV 1 hts q3_61 q2_171 q2_172 q1_3 q2_173 rfl rfl (by decide +kernel) ⟨(Nat.le_of_ble_eq_true rfl), (Nat.le_of_ble_eq_true rfl)⟩) [1, 3] rfl (by decide) 1 rfl rfl rfl rfl hl.1 rfl (Nat.le_of_ble_eq_true rfl) (kn_dec tX4_readValue 12 rfl) ⟨(Nat.le_of_ble_eq_true rfl), (Nat.le_of_ble_eq_true rfl)⟩) (fun r8 u9 H locs h I => ?_)
  have I : kn_I D tc (kn_A _ s.heap.size) s.heap [(kRuleReader, ad_q, _), (kReader, ad_r, _), (kRule, ad_u, _), (kTin, ad_t, _)] _ _ := I.sub [0, 2, 1, 3] (by decide) rfl
  refine lv_istore_n (lv' := [(3, .int _), (2, .int _), (1, .int _), (0, .ref (ad_q 0))]) hx hb (kn_dec tX4_readValue 13 rfl) rfl hl (by decide) rfl (fun ls hl => ?_)
  refine lv_iload_n hx hb (kn_dec tX4_readValue 14 rfl) rfl (lv_at hl 2 rfl) ?_
  refine lv_if_eq (tgt := 53) hx hb (kn_dec tX4_readValue 15 rfl) (by decide) (fun c10 => ?_) (fun c10 => ?_)
  · have h := h.1 c10
    refine lv_iload_n hx hb (kn_dec tX4_readValue 25 rfl) rfl (lv_at hl 0 rfl) ?_
    refine lv_iconst (v := (-1)) hx hb (kn_dec tX4_readValue 26 rfl) (by decide) ?_
    refine lv_icmp_eq (tgt := 85) hx hb (kn_dec tX4_readValue 27 rfl) (by decide) (fun c11 => ?_) (fun c11 => ?_)
    · have h := h.1 c11
      refine lv_aload_n hx hb (kn_dec tX4_readValue 41 rfl) rfl (lv_at hl 3 rfl) ?_
      refine kw_getl hx hb hts inX4 hown hK I 0 rfl rfl 0 (by decide) rfl (hts _ q1_94) (kn_dec tX4_readValue 42 rfl) e_q_0 ?_
      refine lv_iload_n hx hb (kn_dec tX4_readValue 43 rfl) rfl (lv_at hl 1 rfl) ?_
      refine lv_iconst (v := (0)) hx hb (kn_dec tX4_readValue 44 rfl) (by decide) ?_
      refine kw_callv (wc := [(kReader, ad_r, _), (kTin, ad_t, _)]) (wr := [(kRuleReader, ad_q, _), (kRule, ad_u, _)]) I hA [1, 3] [0, 2] rfl rfl (by decide) (by decide) (kn_runV (As := [.int _, .int _]) S0 hK hZ hA I ((ctX2_failAt e_r_0 h).met _) (kn_cwV 2 hts q3_62 q2_235 q2_236 q1_3 q2_237 rfl rfl (by decide +kernel) ⟨(Nat.le_of_ble_eq_true rfl), (Nat.le_of_ble_eq_true rfl)⟩) [1, 3] rfl (by decide) 1 rfl rfl rfl rfl hl.1 rfl (Nat.le_of_ble_eq_true rfl) (kn_dec tX4_readValue 45 rfl) ⟨(Nat.le_of_ble_eq_true rfl), (Nat.le_of_ble_eq_true rfl)⟩) (fun u13 H locs h I => ?_)
      have I : kn_I D tc (kn_A _ s.heap.size) s.heap [(kRuleReader, ad_q, _), (kReader, ad_r, _), (kRule, ad_u, _), (kTin, ad_t, _)] _ _ := I.sub [0, 2, 1, 3] (by decide) rfl
      exact wX4_readValue_b94 X e_r_0 e_q_0 e_q_1 _ _ _ _ _ _ _  I (lv_sub hl [3, 1] rfl) h
    · have h := h.2 c11
      refine lv_aload_n hx hb (kn_dec tX4_readValue 28 rfl) rfl (lv_at hl 3 rfl) ?_
      refine kw_getl hx hb hts inX4 hown hK I 0 rfl rfl 1 (by decide) rfl (hts _ q1_95) (kn_dec tX4_readValue 29 rfl) e_q_1 ?_
      refine lv_iconst (v := (-1)) hx hb (kn_dec tX4_readValue 30 rfl) (by decide) ?_
      refine lv_iload_n hx hb (kn_dec tX4_readValue 31 rfl) rfl (lv_at hl 0 rfl) ?_
      refine lv_isub hx hb (kn_dec tX4_readValue 32 rfl) ?_
      refine kw_callv (wc := [(kRule, ad_u, _)]) (wr := [(kRuleReader, ad_q, _), (kReader, ad_r, _), (kTin, ad_t, _)]) I hA [2] [0, 1, 3] rfl rfl (by decide) (by decide) (kn_runV (As := [.int _]) S0 hK hZ hA I ((ctX3_put h).met _) (kn_cwV 1 hts q3_81 q3_82 q3_83 q1_5 q3_84 rfl rfl (by decide +kernel) ⟨(Nat.le_of_ble_eq_true rfl), (Nat.le_of_ble_eq_true rfl)⟩) [2] rfl (by decide) 2 rfl rfl rfl rfl hl.1 rfl (Nat.le_of_ble_eq_true rfl) (kn_dec tX4_readValue 33 rfl) ⟨(Nat.le_of_ble_eq_true rfl), (Nat.le_of_ble_eq_true rfl)⟩) (fun u15 H locs h I => ?_)
      have I : kn_I D tc (kn_A _ s.heap.size) s.heap [(kRuleReader, ad_q, _), (kReader, ad_r, _), (kRule, ad_u, _), (kTin, ad_t, _)] _ _ := I.sub [0, 1, 3, 2] (by decide) rfl
      refine lv_aload_n hx hb (kn_dec tX4_readValue 34 rfl) rfl (lv_at hl 3 rfl) ?_
      refine kw_getl hx hb hts inX4 hown hK I 0 rfl rfl 0 (by decide) rfl (hts _ q1_94) (kn_dec tX4_readValue 35 rfl) e_q_0 ?_
      refine lv_aload_n hx hb (kn_dec tX4_readValue 36 rfl) rfl (lv_at hl 3 rfl) ?_
      refine kw_getl hx hb hts inX4 hown hK I 0 rfl rfl 0 (by decide) rfl (hts _ q1_94) (kn_dec tX4_readValue 37 rfl) e_q_0 ?_
      refine kw_calli (wc := [(kReader, ad_r, _), (kTin, ad_t, _)]) (wr := [(kRuleReader, ad_q, _), (kRule, ad_u, _)]) I hA [1, 3] [0, 2] rfl rfl (by decide) (by decide) (kn_runV (As := []) S0 hK hZ hA I ((ctX2_wordSize e_r_0 h).met _) (kn_cwV 0 hts q3_85 q2_179 q2_180 q1_3 q2_181 rfl rfl (by decide +kernel) ⟨(Nat.le_of_ble_eq_true rfl), (Nat.le_of_ble_eq_true rfl)⟩) [1, 3] rfl (by decide) 1 rfl rfl rfl rfl hl.1 rfl (Nat.le_of_ble_eq_true rfl) (kn_dec tX4_readValue 38 rfl) ⟨(Nat.le_of_ble_eq_true rfl), (Nat.le_of_ble_eq_true rfl)⟩) (fun r16 u17 H locs h I => ?_)
      have I : kn_I D tc (kn_A _ s.heap.size) s.heap [(kRuleReader, ad_q, _), (kReader, ad_r, _), (kRule, ad_u, _), (kTin, ad_t, _)] _ _ := I.sub [0, 2, 1, 3] (by decide) rfl
      refine kw_callv (wc := [(kReader, ad_r, _), (kTin, ad_t, _)]) (wr := [(kRuleReader, ad_q, _), (kRule, ad_u, _)]) I hA [1, 3] [0, 2] rfl rfl (by decide) (by decide) (kn_runV (As := [.int _]) S0 hK hZ hA I ((ctX2_pass e_r_0 h).met _) (kn_cwV 1 hts q3_86 q3_3 q3_4 q1_3 q3_5 rfl rfl (by decide +kernel) ⟨(Nat.le_of_ble_eq_true rfl), (Nat.le_of_ble_eq_true rfl)⟩) [1, 3] rfl (by decide) 1 rfl rfl rfl rfl hl.1 rfl (Nat.le_of_ble_eq_true rfl) (kn_dec tX4_readValue 39 rfl) ⟨(Nat.le_of_ble_eq_true rfl), (Nat.le_of_ble_eq_true rfl)⟩) (fun u19 H locs h I => ?_)
      have I : kn_I D tc (kn_A _ s.heap.size) s.heap [(kRuleReader, ad_q, _), (kReader, ad_r, _), (kRule, ad_u, _), (kTin, ad_t, _)] _ _ := I.sub [0, 2, 1, 3] (by decide) rfl
      refine lv_goto (tgt := 94) hx hb (kn_dec tX4_readValue 40 rfl) (by decide) ?_
      exact wX4_readValue_b94 X e_r_0 e_q_0 e_q_1 _ _ _ _ _ _ _  I (lv_sub hl [3, 1] rfl) h
  · have h := h.2 c10
    refine lv_aload_n hx hb (kn_dec tX4_readValue 16 rfl) rfl (lv_at hl 3 rfl) ?_
    refine kw_getl hx hb hts inX4 hown hK I 0 rfl rfl 1 (by decide) rfl (hts _ q1_95) (kn_dec tX4_readValue 17 rfl) e_q_1 ?_
    refine lv_aload_n hx hb (kn_dec tX4_readValue 18 rfl) rfl (lv_at hl 3 rfl) ?_
    refine kw_getl hx hb hts inX4 hown hK I 0 rfl rfl 0 (by decide) rfl (hts _ q1_94) (kn_dec tX4_readValue 19 rfl) e_q_0 ?_
    refine lv_iconst (v := (0)) hx hb (kn_dec tX4_readValue 20 rfl) (by decide) ?_
    refine lv_ldc (v := (99999)) hx hb hown (hts _ q3_79) (kn_dec tX4_readValue 21 rfl) ?_
    refine kw_calli (wc := [(kReader, ad_r, _), (kTin, ad_t, _)]) (wr := [(kRuleReader, ad_q, _), (kRule, ad_u, _)]) I hA [1, 3] [0, 2] rfl rfl (by decide) (by decide) (kn_runV (As := [.int _, .int _]) S0 hK hZ hA I ((ctX2_number e_r_0 h).met _) (kn_cwV 2 hts q3_80 q3_11 q3_12 q1_3 q3_13 rfl rfl (by decide +kernel) ⟨(Nat.le_of_ble_eq_true rfl), (Nat.le_of_ble_eq_true rfl)⟩) [1, 3] rfl (by decide) 1 rfl rfl rfl rfl hl.1 rfl (Nat.le_of_ble_eq_true rfl) (kn_dec tX4_readValue 22 rfl) ⟨(Nat.le_of_ble_eq_true rfl), (Nat.le_of_ble_eq_true rfl)⟩) (fun r21 u22 H locs h I => ?_)
    have I : kn_I D tc (kn_A _ s.heap.size) s.heap [(kRuleReader, ad_q, _), (kReader, ad_r, _), (kRule, ad_u, _), (kTin, ad_t, _)] _ _ := I.sub [0, 2, 1, 3] (by decide) rfl
    refine kw_callv (wc := [(kRule, ad_u, _)]) (wr := [(kRuleReader, ad_q, _), (kReader, ad_r, _), (kTin, ad_t, _)]) I hA [2] [0, 1, 3] rfl rfl (by decide) (by decide) (kn_runV (As := [.int _]) S0 hK hZ hA I ((ctX3_put h).met _) (kn_cwV 1 hts q3_81 q3_82 q3_83 q1_5 q3_84 rfl rfl (by decide +kernel) ⟨(Nat.le_of_ble_eq_true rfl), (Nat.le_of_ble_eq_true rfl)⟩) [2] rfl (by decide) 2 rfl rfl rfl rfl hl.1 rfl (Nat.le_of_ble_eq_true rfl) (kn_dec tX4_readValue 23 rfl) ⟨(Nat.le_of_ble_eq_true rfl), (Nat.le_of_ble_eq_true rfl)⟩) (fun u24 H locs h I => ?_)
    have I : kn_I D tc (kn_A _ s.heap.size) s.heap [(kRuleReader, ad_q, _), (kReader, ad_r, _), (kRule, ad_u, _), (kTin, ad_t, _)] _ _ := I.sub [0, 1, 3, 2] (by decide) rfl
    refine lv_goto (tgt := 94) hx hb (kn_dec tX4_readValue 24 rfl) (by decide) ?_
    exact wX4_readValue_b94 X e_r_0 e_q_0 e_q_1 _ _ _ _ _ _ _  I (lv_sub hl [3, 1] rfl) h

/-! X4_readSum -/
abbrev rmX4_readSum : Room := { frames := 7, cells := 0, slots := 0, locals := 157 }
def PX4_readSum_b82 (v_t : OV) (K6 : Int32 → Int32 → Int32 → OV → OV → OV → Prop) (post : OV → OV → OV → Prop) (y1 : Int32) (y2 : Int32) (y3 : Int32) (v_q : OV) (v_r : OV) (v_u : OV) : Prop := (PX2_pass v_r v_t ((1 : Int32)) (fun v_r1 => (∀ x3 : Int32, x3 = y3 + (1 : Int32) → K6 y1 y2 x3 v_q v_r1 v_u)))
set_option maxRecDepth 100000 in
set_option maxHeartbeats 1000000 in
theorem wX4_readSum_b82 {v_t : OV} {K6 : Int32 → Int32 → Int32 → OV → OV → OV → Prop} {post : OV → OV → OV → Prop} {ad_q : Nat → Nat} {ad_r : Nat → Nat} {ad_u : Nat → Nat} {ad_t : Nat → Nat} (X : kn_X p s m args meth c cX4_readSum 4 none RX4 kn_all D tc Z (kn_A w0 s.heap.size)) (e_r_0 : ad_r (0 + 1) = ad_t (0 + 1)) (e_q_0 : ad_q (0 + 1) = ad_r 0) (e_q_1 : ad_q (1 + 1) = ad_u 0)  (hK6 : ∀ (H : Heap) (locs : List Loc) (ls : Array Slot) (y1 : Int32) (y2 : Int32) (y3 : Int32) (v_q : OV) (v_r : OV) (v_u : OV), kn_I D tc (kn_A w0 s.heap.size) s.heap [(kRuleReader, ad_q, v_q), (kReader, ad_r, v_r), (kRule, ad_u, v_u), (kTin, ad_t, v_t)] H locs → lv_has ls 4 [(0, .ref (ad_q 0)), (1, .int y1), (2, .int y2), (3, .int y3)] → K6 y1 y2 y3 v_q v_r v_u → W p l e rmX4_readSum s m args below meth c H locs 0 0 (kn_Qv D tc w0 (fun (u : OV × OV × OV) => [(kRuleReader, ad_q, u.1), (kReader, ad_r, u.2.1), (kRule, ad_u, u.2.2), (kTin, ad_t, v_t)]) (fun (u : OV × OV × OV) => post u.1 u.2.1 u.2.2) below args s 0 0) (F0 m 6 ls [])) : ∀ (H : Heap) (locs : List Loc) (ls : Array Slot) (y1 : Int32) (y2 : Int32) (y3 : Int32) (v_q : OV) (v_r : OV) (v_u : OV), kn_I D tc (kn_A w0 s.heap.size) s.heap [(kRuleReader, ad_q, v_q), (kReader, ad_r, v_r), (kRule, ad_u, v_u), (kTin, ad_t, v_t)] H locs → lv_has ls 4 [(0, .ref (ad_q 0)), (1, .int y1), (2, .int y2), (3, .int y3)] → PX4_readSum_b82 v_t K6 post y1 y2 y3 v_q v_r v_u → W p l e rmX4_readSum s m args below meth c H locs 0 0 (kn_Qv D tc w0 (fun (u : OV × OV × OV) => [(kRuleReader, ad_q, u.1), (kReader, ad_r, u.2.1), (kRule, ad_u, u.2.2), (kTin, ad_t, v_t)]) (fun (u : OV × OV × OV) => post u.1 u.2.1 u.2.2) below args s 0 0) (F0 m 82 ls []) := by
  obtain ⟨S0, hr, hlocks, hK, hZ, hA⟩ := id X
  obtain ⟨hx, hb, hml, hown, hts⟩ := id S0
  intro H locs ls y1 y2 y3 v_q v_r v_u I hl h
  unfold PX4_readSum_b82 at h
  refine lv_aload_n hx hb (kn_dec tX4_readSum 42 rfl) rfl (lv_at hl 0 rfl) ?_
  refine kw_getl hx hb hts inX4 hown hK I 0 rfl rfl 0 (by decide) rfl (hts _ q1_94) (kn_dec tX4_readSum 43 rfl) e_q_0 ?_
  refine lv_iconst (v := (1)) hx hb (kn_dec tX4_readSum 44 rfl) (by decide) ?_
  refine kw_callv (wc := [(kReader, ad_r, _), (kTin, ad_t, _)]) (wr := [(kRuleReader, ad_q, _), (kRule, ad_u, _)]) I hA [1, 3] [0, 2] rfl rfl (by decide) (by decide) (kn_runV (As := [.int _]) S0 hK hZ hA I ((ctX2_pass e_r_0 h).met _) (kn_cwV 1 hts q3_86 q3_3 q3_4 q1_3 q3_5 rfl rfl (by decide +kernel) ⟨(Nat.le_of_ble_eq_true rfl), (Nat.le_of_ble_eq_true rfl)⟩) [1, 3] rfl (by decide) 1 rfl rfl rfl rfl hl.1 rfl (Nat.le_of_ble_eq_true rfl) (kn_dec tX4_readSum 45 rfl) ⟨(Nat.le_of_ble_eq_true rfl), (Nat.le_of_ble_eq_true rfl)⟩) (fun u2 H locs h I => ?_)
  have I : kn_I D tc (kn_A w0 s.heap.size) s.heap [(kRuleReader, ad_q, _), (kReader, ad_r, _), (kRule, ad_u, _), (kTin, ad_t, _)] _ _ := I.sub [0, 2, 1, 3] (by decide) rfl
  refine kw_iinc (lvf := fun y => [(3, .int y), (0, .ref (ad_q 0)), (1, .int _), (2, .int _)]) (nv := (1)) hx hb (kn_dec tX4_readSum 46 rfl) hl (k := 3) rfl (by decide) (by decide) (fun _ => rfl) (fun x3 ex3 ls hl => ?_)
  have h := h x3 ex3
  refine lv_goto (tgt := 6) hx hb (kn_dec tX4_readSum 47 rfl) (by decide) ?_
  exact hK6 _ _ _ _ _ _ _ _ _  I (lv_sub hl [1, 2, 3, 0] rfl) h
def PX4_readSum_b66 (v_t : OV) (K6 : Int32 → Int32 → Int32 → OV → OV → OV → Prop) (post : OV → OV → OV → Prop) (y2 : Int32) (y3 : Int32) (v_q : OV) (v_r : OV) (v_u : OV) : Prop := (PX2_next v_r v_t (fun r2 v_r1 => (PX4_adder r2 (fun r4 => ((¬ r4 = ((0 : Int32)) → PX4_readSum_b82 v_t K6 post r4 y2 y3 v_q v_r1 v_u) ∧ (r4 = ((0 : Int32)) → post v_q v_r1 v_u))))))
set_option maxRecDepth 100000 in
set_option maxHeartbeats 1000000 in
theorem wX4_readSum_b66 {v_t : OV} {K6 : Int32 → Int32 → Int32 → OV → OV → OV → Prop} {post : OV → OV → OV → Prop} {ad_q : Nat → Nat} {ad_r : Nat → Nat} {ad_u : Nat → Nat} {ad_t : Nat → Nat} (X : kn_X p s m args meth c cX4_readSum 4 none RX4 kn_all D tc Z (kn_A w0 s.heap.size)) (e_r_0 : ad_r (0 + 1) = ad_t (0 + 1)) (e_q_0 : ad_q (0 + 1) = ad_r 0) (e_q_1 : ad_q (1 + 1) = ad_u 0)  (hK6 : ∀ (H : Heap) (locs : List Loc) (ls : Array Slot) (y1 : Int32) (y2 : Int32) (y3 : Int32) (v_q : OV) (v_r : OV) (v_u : OV), kn_I D tc (kn_A w0 s.heap.size) s.heap [(kRuleReader, ad_q, v_q), (kReader, ad_r, v_r), (kRule, ad_u, v_u), (kTin, ad_t, v_t)] H locs → lv_has ls 4 [(0, .ref (ad_q 0)), (1, .int y1), (2, .int y2), (3, .int y3)] → K6 y1 y2 y3 v_q v_r v_u → W p l e rmX4_readSum s m args below meth c H locs 0 0 (kn_Qv D tc w0 (fun (u : OV × OV × OV) => [(kRuleReader, ad_q, u.1), (kReader, ad_r, u.2.1), (kRule, ad_u, u.2.2), (kTin, ad_t, v_t)]) (fun (u : OV × OV × OV) => post u.1 u.2.1 u.2.2) below args s 0 0) (F0 m 6 ls [])) : ∀ (H : Heap) (locs : List Loc) (ls : Array Slot) (y2 : Int32) (y3 : Int32) (v_q : OV) (v_r : OV) (v_u : OV), kn_I D tc (kn_A w0 s.heap.size) s.heap [(kRuleReader, ad_q, v_q), (kReader, ad_r, v_r), (kRule, ad_u, v_u), (kTin, ad_t, v_t)] H locs → lv_has ls 4 [(0, .ref (ad_q 0)), (2, .int y2), (3, .int y3)] → PX4_readSum_b66 v_t K6 post y2 y3 v_q v_r v_u → W p l e rmX4_readSum s m args below meth c H locs 0 0 (kn_Qv D tc w0 (fun (u : OV × OV × OV) => [(kRuleReader, ad_q, u.1), (kReader, ad_r, u.2.1), (kRule, ad_u, u.2.2), (kTin, ad_t, v_t)]) (fun (u : OV × OV × OV) => post u.1 u.2.1 u.2.2) below args s 0 0) (F0 m 66 ls []) := by
  obtain ⟨S0, hr, hlocks, hK, hZ, hA⟩ := id X
  obtain ⟨hx, hb, hml, hown, hts⟩ := id S0
  intro H locs ls y2 y3 v_q v_r v_u I hl h
  unfold PX4_readSum_b66 at h
  refine lv_aload_n hx hb (kn_dec tX4_readSum 34 rfl) rfl (lv_at hl 0 rfl) ?_
  refine kw_getl hx hb hts inX4 hown hK I 0 rfl rfl 0 (by decide) rfl (hts _ q1_94) (kn_dec tX4_readSum 35 rfl) e_q_0 ?_
  refine kw_calli (wc := [(kReader, ad_r, _), (kTin, ad_t, _)]) (wr := [(kRuleReader, ad_q, _), (kRule, ad_u, _)]) I hA [1, 3] [0, 2] rfl rfl (by decide) (by decide) (kn_runV (As := []) S0 hK hZ hA I ((ctX2_next e_r_0 h).met _) (kn_cwV 0 hts q3_76 q2_175 q2_176 q1_3 q2_177 rfl rfl (by decide +kernel) ⟨(Nat.le_of_ble_eq_true rfl), (Nat.le_of_ble_eq_true rfl)⟩) [1, 3] rfl (by decide) 1 rfl rfl rfl rfl hl.1 rfl (Nat.le_of_ble_eq_true rfl) (kn_dec tX4_readSum 36 rfl) ⟨(Nat.le_of_ble_eq_true rfl), (Nat.le_of_ble_eq_true rfl)⟩) (fun r2 u3 H locs h I => ?_)
  have I : kn_I D tc (kn_A w0 s.heap.size) s.heap [(kRuleReader, ad_q, _), (kReader, ad_r, _), (kRule, ad_u, _), (kTin, ad_t, _)] _ _ := I.sub [0, 2, 1, 3] (by decide) rfl
  refine kw_calli (wc := []) (wr := [(kRuleReader, ad_q, _), (kReader, ad_r, _), (kRule, ad_u, _), (kTin, ad_t, _)]) I hA [] [0, 1, 2, 3] rfl rfl (by decide) (by decide) (kn_runS (As := [.int _]) S0 hK hZ hA I ((ctX4_adder h).met _) (kn_cwS 1 hts q3_94 q3_95 q1_4 q3_96 rfl rfl (by decide +kernel) ⟨(Nat.le_of_ble_eq_true rfl), (Nat.le_of_ble_eq_true rfl)⟩) [] rfl (by decide) rfl hl.1 rfl (Nat.le_of_ble_eq_true rfl) (kn_dec tX4_readSum 37 rfl) ⟨(Nat.le_of_ble_eq_true rfl), (Nat.le_of_ble_eq_true rfl)⟩) (fun r4 u5 H locs h I => ?_)
  have I : kn_I D tc (kn_A w0 s.heap.size) s.heap [(kRuleReader, ad_q, _), (kReader, ad_r, _), (kRule, ad_u, _), (kTin, ad_t, _)] _ _ := I
  refine lv_istore_n (lv' := [(1, .int _), (0, .ref (ad_q 0)), (2, .int _), (3, .int _)]) hx hb (kn_dec tX4_readSum 38 rfl) rfl hl (by decide) rfl (fun ls hl => ?_)
  refine lv_iload_n hx hb (kn_dec tX4_readSum 39 rfl) rfl (lv_at hl 0 rfl) ?_
  refine lv_if_ne (tgt := 82) hx hb (kn_dec tX4_readSum 40 rfl) (by decide) (fun c6 => ?_) (fun c6 => ?_)
  · have h := h.1 c6
    exact wX4_readSum_b82 X e_r_0 e_q_0 e_q_1 hK6 _ _ _ _ _ _ _ _ _  I (lv_sub hl [1, 0, 2, 3] rfl) h
  · have h := h.2 c6
    exact kw_vret hx hb hr hlocks I (v_q, u3, v_u) rfl h (kn_dec tX4_readSum 41 rfl)
def PX4_readSum_b39 (v_t : OV) (K6 : Int32 → Int32 → Int32 → OV → OV → OV → Prop) (post : OV → OV → OV → Prop) (y1 : Int32) (y3 : Int32) (v_q : OV) (v_r : OV) (v_u : OV) : Prop := (PX2_next v_r v_t (fun r2 v_r1 => (PX4_multiplier r2 (fun r4 => ((¬ r4 = ((0 : Int32)) → PX4_readSum_b82 v_t K6 post y1 r4 y3 v_q v_r1 v_u) ∧ (r4 = ((0 : Int32)) → ((y1 = ((0 : Int32)) → PX4_readSum_b66 v_t K6 post r4 y3 v_q v_r1 v_u) ∧ (¬ y1 = ((0 : Int32)) → (PX3_put v_u y1 (fun v_u8 => PX4_readSum_b66 v_t K6 post r4 y3 v_q v_r1 v_u8))))))))))
set_option maxRecDepth 100000 in
set_option maxHeartbeats 1000000 in
theorem wX4_readSum_b39 {v_t : OV} {K6 : Int32 → Int32 → Int32 → OV → OV → OV → Prop} {post : OV → OV → OV → Prop} {ad_q : Nat → Nat} {ad_r : Nat → Nat} {ad_u : Nat → Nat} {ad_t : Nat → Nat} (X : kn_X p s m args meth c cX4_readSum 4 none RX4 kn_all D tc Z (kn_A w0 s.heap.size)) (e_r_0 : ad_r (0 + 1) = ad_t (0 + 1)) (e_q_0 : ad_q (0 + 1) = ad_r 0) (e_q_1 : ad_q (1 + 1) = ad_u 0)  (hK6 : ∀ (H : Heap) (locs : List Loc) (ls : Array Slot) (y1 : Int32) (y2 : Int32) (y3 : Int32) (v_q : OV) (v_r : OV) (v_u : OV), kn_I D tc (kn_A w0 s.heap.size) s.heap [(kRuleReader, ad_q, v_q), (kReader, ad_r, v_r), (kRule, ad_u, v_u), (kTin, ad_t, v_t)] H locs → lv_has ls 4 [(0, .ref (ad_q 0)), (1, .int y1), (2, .int y2), (3, .int y3)] → K6 y1 y2 y3 v_q v_r v_u → W p l e rmX4_readSum s m args below meth c H locs 0 0 (kn_Qv D tc w0 (fun (u : OV × OV × OV) => [(kRuleReader, ad_q, u.1), (kReader, ad_r, u.2.1), (kRule, ad_u, u.2.2), (kTin, ad_t, v_t)]) (fun (u : OV × OV × OV) => post u.1 u.2.1 u.2.2) below args s 0 0) (F0 m 6 ls [])) : ∀ (H : Heap) (locs : List Loc) (ls : Array Slot) (y1 : Int32) (y3 : Int32) (v_q : OV) (v_r : OV) (v_u : OV), kn_I D tc (kn_A w0 s.heap.size) s.heap [(kRuleReader, ad_q, v_q), (kReader, ad_r, v_r), (kRule, ad_u, v_u), (kTin, ad_t, v_t)] H locs → lv_has ls 4 [(0, .ref (ad_q 0)), (1, .int y1), (3, .int y3)] → PX4_readSum_b39 v_t K6 post y1 y3 v_q v_r v_u → W p l e rmX4_readSum s m args below meth c H locs 0 0 (kn_Qv D tc w0 (fun (u : OV × OV × OV) => [(kRuleReader, ad_q, u.1), (kReader, ad_r, u.2.1), (kRule, ad_u, u.2.2), (kTin, ad_t, v_t)]) (fun (u : OV × OV × OV) => post u.1 u.2.1 u.2.2) below args s 0 0) (F0 m 39 ls []) := by
  obtain ⟨S0, hr, hlocks, hK, hZ, hA⟩ := id X
  obtain ⟨hx, hb, hml, hown, hts⟩ := id S0
  intro H locs ls y1 y3 v_q v_r v_u I hl h
  unfold PX4_readSum_b39 at h
  refine lv_aload_n hx hb (kn_dec tX4_readSum 21 rfl) rfl (lv_at hl 0 rfl) ?_
  refine kw_getl hx hb hts inX4 hown hK I 0 rfl rfl 0 (by decide) rfl (hts _ q1_94) (kn_dec tX4_readSum 22 rfl) e_q_0 ?_
  refine kw_calli (wc := [(kReader, ad_r, _), (kTin, ad_t, _)]) (wr := [(kRuleReader, ad_q, _), (kRule, ad_u, _)]) I hA [1, 3] [0, 2] rfl rfl (by decide) (by decide) (kn_runV (As := []) S0 hK hZ hA I ((ctX2_next e_r_0 h).met _) (kn_cwV 0 hts q3_76 q2_175 q2_176 q1_3 q2_177 rfl rfl (by decide +kernel) ⟨(Nat.le_of_ble_eq_true rfl), (Nat.le_of_ble_eq_true rfl)⟩) [1, 3] rfl (by decide) 1 rfl rfl rfl rfl hl.1 rfl (Nat.le_of_ble_eq_true rfl) (kn_dec tX4_readSum 23 rfl) ⟨(Nat.le_of_ble_eq_true rfl), (Nat.le_of_ble_eq_true rfl)⟩) (fun r2 u3 H locs h I => ?_)
  have I : kn_I D tc (kn_A w0 s.heap.size) s.heap [(kRuleReader, ad_q, _), (kReader, ad_r, _), (kRule, ad_u, _), (kTin, ad_t, _)] _ _ := I.sub [0, 2, 1, 3] (by decide) rfl
  refine kw_calli (wc := []) (wr := [(kRuleReader, ad_q, _), (kReader, ad_r, _), (kRule, ad_u, _), (kTin, ad_t, _)]) I hA [] [0, 1, 2, 3] rfl rfl (by decide) (by decide) (kn_runS (As := [.int _]) S0 hK hZ hA I ((ctX4_multiplier h).met _) (kn_cwS 1 hts q3_91 q3_92 q1_4 q3_93 rfl rfl (by decide +kernel) ⟨(Nat.le_of_ble_eq_true rfl), (Nat.le_of_ble_eq_true rfl)⟩) [] rfl (by decide) rfl hl.1 rfl (Nat.le_of_ble_eq_true rfl) (kn_dec tX4_readSum 24 rfl) ⟨(Nat.le_of_ble_eq_true rfl), (Nat.le_of_ble_eq_true rfl)⟩) (fun r4 u5 H locs h I => ?_)
  have I : kn_I D tc (kn_A w0 s.heap.size) s.heap [(kRuleReader, ad_q, _), (kReader, ad_r, _), (kRule, ad_u, _), (kTin, ad_t, _)] _ _ := I
  refine lv_istore_n (lv' := [(2, .int _), (0, .ref (ad_q 0)), (1, .int _), (3, .int _)]) hx hb (kn_dec tX4_readSum 25 rfl) rfl hl (by decide) rfl (fun ls hl => ?_)
  refine lv_iload_n hx hb (kn_dec tX4_readSum 26 rfl) rfl (lv_at hl 0 rfl) ?_
  refine lv_if_ne (tgt := 82) hx hb (kn_dec tX4_readSum 27 rfl) (by decide) (fun c6 => ?_) (fun c6 => ?_)
  · have h := h.1 c6
    exact wX4_readSum_b82 X e_r_0 e_q_0 e_q_1 hK6 _ _ _ _ _ _ _ _ _  I (lv_sub hl [1, 2, 0, 3] rfl) h
  · have h := h.2 c6
    refine lv_iload_n hx hb (kn_dec tX4_readSum 28 rfl) rfl (lv_at hl 2 rfl) ?_
    refine lv_if_eq (tgt := 66) hx hb (kn_dec tX4_readSum 29 rfl) (by decide) (fun c7 => ?_) (fun c7 => ?_)
    · have h := h.1 c7
      exact wX4_readSum_b66 X e_r_0 e_q_0 e_q_1 hK6 _ _ _ _ _ _ _ _  I (lv_sub hl [1, 0, 3] rfl) h
    · have h := h.2 c7
      refine lv_aload_n hx hb (kn_dec tX4_readSum 30 rfl) rfl (lv_at hl 1 rfl) ?_
      refine kw_getl hx hb hts inX4 hown hK I 0 rfl rfl 1 (by decide) rfl (hts _ q1_95) (kn_dec tX4_readSum 31 rfl) e_q_1 ?_
      refine lv_iload_n hx hb (kn_dec tX4_readSum 32 rfl) rfl (lv_at hl 2 rfl) ?_
      refine kw_callv (wc := [(kRule, ad_u, _)]) (wr := [(kRuleReader, ad_q, _), (kReader, ad_r, _), (kTin, ad_t, _)]) I hA [2] [0, 1, 3] rfl rfl (by decide) (by decide) (kn_runV (As := [.int _]) S0 hK hZ hA I ((ctX3_put h).met _) (kn_cwV 1 hts q3_81 q3_82 q3_83 q1_5 q3_84 rfl rfl (by decide +kernel) ⟨(Nat.le_of_ble_eq_true rfl), (Nat.le_of_ble_eq_true rfl)⟩) [2] rfl (by decide) 2 rfl rfl rfl rfl hl.1 rfl (Nat.le_of_ble_eq_true rfl) (kn_dec tX4_readSum 33 rfl) ⟨(Nat.le_of_ble_eq_true rfl), (Nat.le_of_ble_eq_true rfl)⟩) (fun u9 H locs h I => ?_)
      have I : kn_I D tc (kn_A w0 s.heap.size) s.heap [(kRuleReader, ad_q, _), (kReader, ad_r, _), (kRule, ad_u, _), (kTin, ad_t, _)] _ _ := I.sub [0, 1, 3, 2] (by decide) rfl
      exact wX4_readSum_b66 X e_r_0 e_q_0 e_q_1 hK6 _ _ _ _ _ _ _ _  I (lv_sub hl [1, 0, 3] rfl) h
def PX4_readSum_L6 (v_t : OV)  (post : OV → OV → OV → Prop) : Nat → Int32 → Int32 → Int32 → OV → OV → OV → Prop
  | 0, _, _, _, _, _, _ => False
  | n + 1, y1, y2, y3, v_q, v_r, v_u => ((((400 : Int32)) ≤ y3 → post v_q v_r v_u) ∧ (¬ ((400 : Int32)) ≤ y3 → ((¬ (v_r.1 3) = ((0 : Int32)) → post v_q v_r v_u) ∧ ((v_r.1 3) = ((0 : Int32)) → (PX4_readValue v_q v_r v_u v_t (fun v_q3 v_r4 v_u5 => ((y2 = ((0 : Int32)) → PX4_readSum_b39 v_t (PX4_readSum_L6 v_t post n) post y1 y3 v_q3 v_r4 v_u5) ∧ (¬ y2 = ((0 : Int32)) → (PX3_put v_u5 y2 (fun v_u8 => PX4_readSum_b39 v_t (PX4_readSum_L6 v_t post n) post y1 y3 v_q3 v_r4 v_u8))))))))))
set_option maxRecDepth 100000 in
set_option maxHeartbeats 1000000 in
theorem wX4_readSum_L6 {v_t : OV}  {post : OV → OV → OV → Prop} {ad_q : Nat → Nat} {ad_r : Nat → Nat} {ad_u : Nat → Nat} {ad_t : Nat → Nat} (X : kn_X p s m args meth c cX4_readSum 4 none RX4 kn_all D tc Z (kn_A w0 s.heap.size)) (e_r_0 : ad_r (0 + 1) = ad_t (0 + 1)) (e_q_0 : ad_q (0 + 1) = ad_r 0) (e_q_1 : ad_q (1 + 1) = ad_u 0)   : ∀ n : Nat, ∀ (H : Heap) (locs : List Loc) (ls : Array Slot) (y1 : Int32) (y2 : Int32) (y3 : Int32) (v_q : OV) (v_r : OV) (v_u : OV), kn_I D tc (kn_A w0 s.heap.size) s.heap [(kRuleReader, ad_q, v_q), (kReader, ad_r, v_r), (kRule, ad_u, v_u), (kTin, ad_t, v_t)] H locs → lv_has ls 4 [(0, .ref (ad_q 0)), (1, .int y1), (2, .int y2), (3, .int y3)] → PX4_readSum_L6 v_t post n y1 y2 y3 v_q v_r v_u → W p l e rmX4_readSum s m args below meth c H locs 0 0 (kn_Qv D tc w0 (fun (u : OV × OV × OV) => [(kRuleReader, ad_q, u.1), (kReader, ad_r, u.2.1), (kRule, ad_u, u.2.2), (kTin, ad_t, v_t)]) (fun (u : OV × OV × OV) => post u.1 u.2.1 u.2.2) below args s 0 0) (F0 m 6 ls []) := by
  obtain ⟨S0, hr, hlocks, hK, hZ, hA⟩ := id X
  obtain ⟨hx, hb, hml, hown, hts⟩ := id S0
  intro n
  induction n with
  | zero =>
    intro H locs ls y1 y2 y3 v_q v_r v_u I hl h
    unfold PX4_readSum_L6 at h
    exact h.elim
  | succ n ih =>
    intro H locs ls y1 y2 y3 v_q v_r v_u I hl h
    unfold PX4_readSum_L6 at h
    refine lv_iload_n hx hb (kn_dec tX4_readSum 6 rfl) rfl (lv_at hl 3 rfl) ?_
    refine lv_sipush (v := (400)) hx hb (kn_dec tX4_readSum 7 rfl) (by decide) ?_
    refine lv_icmp_ge (tgt := 96) hx hb (kn_dec tX4_readSum 8 rfl) (by decide) (fun c1 => ?_) (fun c1 => ?_)
    · have h := h.1 c1
      exact kw_vret hx hb hr hlocks I (v_q, v_r, v_u) rfl h (kn_dec tX4_readSum 48 rfl)
    · have h := h.2 c1
      refine lv_aload_n hx hb (kn_dec tX4_readSum 9 rfl) rfl (lv_at hl 0 rfl) ?_
      refine kw_getl hx hb hts inX4 hown hK I 0 rfl rfl 0 (by decide) rfl (hts _ q1_94) (kn_dec tX4_readSum 10 rfl) e_q_0 ?_
      refine kw_geti hx hb hts inX2 hown hK I 1 rfl rfl 3 (by decide) rfl (hts _ q1_45) (kn_dec tX4_readSum 11 rfl) ?_
      refine lv_if_ne (tgt := 96) hx hb (kn_dec tX4_readSum 12 rfl) (by decide) (fun c2 => ?_) (fun c2 => ?_)
      · have h := h.1 c2
        exact kw_vret hx hb hr hlocks I (v_q, v_r, v_u) rfl h (kn_dec tX4_readSum 48 rfl)
      · have h := h.2 c2
        refine lv_aload_n hx hb (kn_dec tX4_readSum 13 rfl) rfl (lv_at hl 0 rfl) ?_
        refine kw_callv (wc := [(kRuleReader, ad_q, _), (kReader, ad_r, _), (kRule, ad_u, _), (kTin, ad_t, _)]) (wr := []) I hA [0, 1, 2, 3] [] rfl rfl (by decide) (by decide) (kn_runV (As := []) S0 hK hZ hA I ((ctX4_readValue e_r_0 e_q_0 e_q_1 h).met _) (kn_cwV 0 hts q3_72 q3_74 q0_7 q1_4 q3_75 rfl rfl (by decide +kernel) ⟨(Nat.le_of_ble_eq_true rfl), (Nat.le_of_ble_eq_true rfl)⟩) [0, 1, 2, 3] rfl (by decide) 0 rfl rfl rfl rfl hl.1 rfl (Nat.le_of_ble_eq_true rfl) (kn_dec tX4_readSum 14 rfl) ⟨(Nat.le_of_ble_eq_true rfl), (Nat.le_of_ble_eq_true rfl)⟩) (fun u6 H locs h I => ?_)
        have I : kn_I D tc (kn_A w0 s.heap.size) s.heap [(kRuleReader, ad_q, _), (kReader, ad_r, _), (kRule, ad_u, _), (kTin, ad_t, _)] _ _ := I
        refine lv_iload_n hx hb (kn_dec tX4_readSum 15 rfl) rfl (lv_at hl 2 rfl) ?_
        refine lv_if_eq (tgt := 39) hx hb (kn_dec tX4_readSum 16 rfl) (by decide) (fun c7 => ?_) (fun c7 => ?_)
        · have h := h.1 c7
          exact wX4_readSum_b39 X e_r_0 e_q_0 e_q_1 ih _ _ _ _ _ _ _ _  I (lv_sub hl [0, 1, 3] rfl) h
        · have h := h.2 c7
          refine lv_aload_n hx hb (kn_dec tX4_readSum 17 rfl) rfl (lv_at hl 0 rfl) ?_
          refine kw_getl hx hb hts inX4 hown hK I 0 rfl rfl 1 (by decide) rfl (hts _ q1_95) (kn_dec tX4_readSum 18 rfl) e_q_1 ?_
          refine lv_iload_n hx hb (kn_dec tX4_readSum 19 rfl) rfl (lv_at hl 2 rfl) ?_
          refine kw_callv (wc := [(kRule, ad_u, _)]) (wr := [(kRuleReader, ad_q, _), (kReader, ad_r, _), (kTin, ad_t, _)]) I hA [2] [0, 1, 3] rfl rfl (by decide) (by decide) (kn_runV (As := [.int _]) S0 hK hZ hA I ((ctX3_put h).met _) (kn_cwV 1 hts q3_81 q3_82 q3_83 q1_5 q3_84 rfl rfl (by decide +kernel) ⟨(Nat.le_of_ble_eq_true rfl), (Nat.le_of_ble_eq_true rfl)⟩) [2] rfl (by decide) 2 rfl rfl rfl rfl hl.1 rfl (Nat.le_of_ble_eq_true rfl) (kn_dec tX4_readSum 20 rfl) ⟨(Nat.le_of_ble_eq_true rfl), (Nat.le_of_ble_eq_true rfl)⟩) (fun u9 H locs h I => ?_)
          have I : kn_I D tc (kn_A w0 s.heap.size) s.heap [(kRuleReader, ad_q, _), (kReader, ad_r, _), (kRule, ad_u, _), (kTin, ad_t, _)] _ _ := I.sub [0, 1, 3, 2] (by decide) rfl
          exact wX4_readSum_b39 X e_r_0 e_q_0 e_q_1 ih _ _ _ _ _ _ _ _  I (lv_sub hl [0, 1, 3] rfl) h
def PX4_readSum  (v_q : OV) (v_r : OV) (v_u : OV) (v_t : OV) (post : OV → OV → OV → Prop) : Prop := (∃ n1 : Nat, PX4_readSum_L6 v_t post n1 ((0 : Int32)) ((0 : Int32)) ((0 : Int32)) v_q v_r v_u)
set_option maxRecDepth 100000 in
set_option maxHeartbeats 1000000 in
theorem ctX4_readSum {l : Launch} {D : va_G} {tc : Nat → ClassId} {Z : (Nat → Nat) × (Nat → Nat)}  {ad_q : Nat → Nat} {ad_r : Nat → Nat} {ad_u : Nat → Nat} {ad_t : Nat → Nat} {v_q : OV} {v_r : OV} {v_u : OV} {v_t : OV} (e_r_0 : ad_r (0 + 1) = ad_t (0 + 1)) (e_q_0 : ad_q (0 + 1) = ad_r 0) (e_q_1 : ad_q (1 + 1) = ad_u 0)   {post : OV → OV → OV → Prop} (h : PX4_readSum  v_q v_r v_u v_t post) : CTv l D tc Z yX4_readSum (Cond.code yX4_readSum cX4_readSum 4 none :: kn_all) rmX4_readSum 0 0 [.ref (ad_q 0)] [(kRuleReader, ad_q, v_q), (kReader, ad_r, v_r), (kRule, ad_u, v_u), (kTin, ad_t, v_t)] (fun (u : OV × OV × OV) => [(kRuleReader, ad_q, u.1), (kReader, ad_r, u.2.1), (kRule, ad_u, u.2.2), (kTin, ad_t, v_t)]) (fun (u : OV × OV × OV) => post u.1 u.2.1 u.2.2) := by
  refine kn_ofv (cc := cX4_readSum) (nL := 4) (ret := none) (lv := [(0, .ref (ad_q 0))]) (by decide) (Nat.le_of_ble_eq_true rfl) rfl (fun p e s m below meth c ls X I hl _ => ?_)
  obtain ⟨S0, hr, hlocks, hK, hZ, hA⟩ := id X
  obtain ⟨hx, hb, hml, hown, hts⟩ := id S0
  unfold PX4_readSum at h
  refine lv_iconst (v := (0)) hx hb (kn_dec tX4_readSum 0 rfl) (by decide) ?_
  refine lv_istore_n (lv' := [(1, .int _), (0, .ref (ad_q 0))]) hx hb (kn_dec tX4_readSum 1 rfl) rfl hl (by decide) rfl (fun ls hl => ?_)
  refine lv_iconst (v := (0)) hx hb (kn_dec tX4_readSum 2 rfl) (by decide) ?_
  refine lv_istore_n (lv' := [(2, .int _), (1, .int _), (0, .ref (ad_q 0))]) hx hb (kn_dec tX4_readSum 3 rfl) rfl hl (by decide) rfl (fun ls hl => ?_)
  refine lv_iconst (v := (0)) hx hb (kn_dec tX4_readSum 4 rfl) (by decide) ?_
  refine lv_istore_n (lv' := [(3, .int _), (2, .int _), (1, .int _), (0, .ref (ad_q 0))]) hx hb (kn_dec tX4_readSum 5 rfl) rfl hl (by decide) rfl (fun ls hl => ?_)
  obtain ⟨n1, h⟩ := h
  exact wX4_readSum_L6 X e_r_0 e_q_0 e_q_1 n1 _ _ _ _ _ _ _ _ _  I (lv_sub hl [3, 2, 1, 0] rfl) h

/-! X4_readSign -/
abbrev rmX4_readSign : Room := { frames := 2, cells := 0, slots := 0, locals := 85 }
def PX4_readSign_b69 (v_u : OV) (v_t : OV)  (post : Int32 → OV → OV → Prop) (t1 : Int32) (y1 : Int32) (v_q : OV) (v_r : OV) : Prop := (PX2_pass v_r v_t t1 (fun v_r1 => post y1 v_q v_r1))
set_option maxRecDepth 100000 in
set_option maxHeartbeats 1000000 in
theorem wX4_readSign_b69 {v_u : OV} {v_t : OV}  {post : Int32 → OV → OV → Prop} {ad_q : Nat → Nat} {ad_r : Nat → Nat} {ad_u : Nat → Nat} {ad_t : Nat → Nat} (X : kn_X p s m args meth c cX4_readSign 2 (some .int) RX4 kn_all D tc Z (kn_A w0 s.heap.size)) (e_r_0 : ad_r (0 + 1) = ad_t (0 + 1)) (e_q_0 : ad_q (0 + 1) = ad_r 0) (e_q_1 : ad_q (1 + 1) = ad_u 0)   : ∀ (H : Heap) (locs : List Loc) (ls : Array Slot) (t1 : Int32) (y1 : Int32) (v_q : OV) (v_r : OV), kn_I D tc (kn_A w0 s.heap.size) s.heap [(kRuleReader, ad_q, v_q), (kReader, ad_r, v_r), (kRule, ad_u, v_u), (kTin, ad_t, v_t)] H locs → lv_has ls 2 [(1, .int y1)] → PX4_readSign_b69 v_u v_t post t1 y1 v_q v_r → W p l e rmX4_readSign s m args below meth c H locs 0 0 (kn_Qi D tc w0 (fun (u : OV × OV) => [(kRuleReader, ad_q, u.1), (kReader, ad_r, u.2), (kRule, ad_u, v_u), (kTin, ad_t, v_t)]) (fun (r : Int32) (u : OV × OV) => post r u.1 u.2) below args s 0 0) (F0 m 69 ls [.int t1, .ref (ad_r 0)]) := by
  obtain ⟨S0, hr, hlocks, hK, hZ, hA⟩ := id X
  obtain ⟨hx, hb, hml, hown, hts⟩ := id S0
  intro H locs ls t1 y1 v_q v_r I hl h
  unfold PX4_readSign_b69 at h
  refine kw_callv (wc := [(kReader, ad_r, _), (kTin, ad_t, _)]) (wr := [(kRuleReader, ad_q, _), (kRule, ad_u, _)]) I hA [1, 3] [0, 2] rfl rfl (by decide) (by decide) (kn_runV (As := [.int _]) S0 hK hZ hA I ((ctX2_pass e_r_0 h).met _) (kn_cwV 1 hts q3_86 q3_3 q3_4 q1_3 q3_5 rfl rfl (by decide +kernel) ⟨(Nat.le_of_ble_eq_true rfl), (Nat.le_of_ble_eq_true rfl)⟩) [1, 3] rfl (by decide) 1 rfl rfl rfl rfl hl.1 rfl (Nat.le_of_ble_eq_true rfl) (kn_dec tX4_readSign 33 rfl) ⟨(Nat.le_of_ble_eq_true rfl), (Nat.le_of_ble_eq_true rfl)⟩) (fun u2 H locs h I => ?_)
  have I : kn_I D tc (kn_A w0 s.heap.size) s.heap [(kRuleReader, ad_q, _), (kReader, ad_r, _), (kRule, ad_u, _), (kTin, ad_t, _)] _ _ := I.sub [0, 2, 1, 3] (by decide) rfl
  refine lv_iload_n hx hb (kn_dec tX4_readSign 34 rfl) rfl (lv_at hl 0 rfl) ?_
  exact kw_iret hx hb hr hlocks I (v_q, u2) rfl h (kn_dec tX4_readSign 35 rfl)
def PX4_readSign_b37 (v_u : OV) (v_t : OV)  (post : Int32 → OV → OV → Prop) (y1 : Int32) (v_q : OV) (v_r : OV) : Prop := (PX4_countAt v_q v_r v_u v_t (v_r.1 2) (fun v_q1 v_r2 => ((y1 = ((-21 : Int32)) → PX4_readSign_b69 v_u v_t post ((2 : Int32)) y1 v_q1 v_r2) ∧ (¬ y1 = ((-21 : Int32)) → ((¬ y1 = ((-23 : Int32)) → PX4_readSign_b69 v_u v_t post ((1 : Int32)) y1 v_q1 v_r2) ∧ (y1 = ((-23 : Int32)) → PX4_readSign_b69 v_u v_t post ((2 : Int32)) y1 v_q1 v_r2))))))
set_option maxRecDepth 100000 in
set_option maxHeartbeats 1000000 in
theorem wX4_readSign_b37 {v_u : OV} {v_t : OV}  {post : Int32 → OV → OV → Prop} {ad_q : Nat → Nat} {ad_r : Nat → Nat} {ad_u : Nat → Nat} {ad_t : Nat → Nat} (X : kn_X p s m args meth c cX4_readSign 2 (some .int) RX4 kn_all D tc Z (kn_A w0 s.heap.size)) (e_r_0 : ad_r (0 + 1) = ad_t (0 + 1)) (e_q_0 : ad_q (0 + 1) = ad_r 0) (e_q_1 : ad_q (1 + 1) = ad_u 0)   : ∀ (H : Heap) (locs : List Loc) (ls : Array Slot) (y1 : Int32) (v_q : OV) (v_r : OV), kn_I D tc (kn_A w0 s.heap.size) s.heap [(kRuleReader, ad_q, v_q), (kReader, ad_r, v_r), (kRule, ad_u, v_u), (kTin, ad_t, v_t)] H locs → lv_has ls 2 [(0, .ref (ad_q 0)), (1, .int y1)] → PX4_readSign_b37 v_u v_t post y1 v_q v_r → W p l e rmX4_readSign s m args below meth c H locs 0 0 (kn_Qi D tc w0 (fun (u : OV × OV) => [(kRuleReader, ad_q, u.1), (kReader, ad_r, u.2), (kRule, ad_u, v_u), (kTin, ad_t, v_t)]) (fun (r : Int32) (u : OV × OV) => post r u.1 u.2) below args s 0 0) (F0 m 37 ls []) := by
  obtain ⟨S0, hr, hlocks, hK, hZ, hA⟩ := id X
  obtain ⟨hx, hb, hml, hown, hts⟩ := id S0
  intro H locs ls y1 v_q v_r I hl h
  unfold PX4_readSign_b37 at h
  refine lv_aload_n hx hb (kn_dec tX4_readSign 17 rfl) rfl (lv_at hl 0 rfl) ?_
  refine lv_aload_n hx hb (kn_dec tX4_readSign 18 rfl) rfl (lv_at hl 0 rfl) ?_
  refine kw_getl hx hb hts inX4 hown hK I 0 rfl rfl 0 (by decide) rfl (hts _ q1_94) (kn_dec tX4_readSign 19 rfl) e_q_0 ?_
  refine kw_geti hx hb hts inX2 hown hK I 1 rfl rfl 2 (by decide) rfl (hts _ q1_42) (kn_dec tX4_readSign 20 rfl) ?_
  refine kw_callv (wc := [(kRuleReader, ad_q, _), (kReader, ad_r, _), (kRule, ad_u, _), (kTin, ad_t, _)]) (wr := []) I hA [0, 1, 2, 3] [] rfl rfl (by decide) (by decide) (kn_runV (As := [.int _]) S0 hK hZ hA I ((ctX4_countAt e_r_0 e_q_0 e_q_1 h).met _) (kn_cwV 1 hts q3_87 q3_89 q0_8 q1_4 q3_90 rfl rfl (by decide +kernel) ⟨(Nat.le_of_ble_eq_true rfl), (Nat.le_of_ble_eq_true rfl)⟩) [0, 1, 2, 3] rfl (by decide) 0 rfl rfl rfl rfl hl.1 rfl (Nat.le_of_ble_eq_true rfl) (kn_dec tX4_readSign 21 rfl) ⟨(Nat.le_of_ble_eq_true rfl), (Nat.le_of_ble_eq_true rfl)⟩) (fun u3 H locs h I => ?_)
  have I : kn_I D tc (kn_A w0 s.heap.size) s.heap [(kRuleReader, ad_q, _), (kReader, ad_r, _), (kRule, ad_u, _), (kTin, ad_t, _)] _ _ := I
  refine lv_aload_n hx hb (kn_dec tX4_readSign 22 rfl) rfl (lv_at hl 0 rfl) ?_
  refine kw_getl hx hb hts inX4 hown hK I 0 rfl rfl 0 (by decide) rfl (hts _ q1_94) (kn_dec tX4_readSign 23 rfl) e_q_0 ?_
  refine lv_iload_n hx hb (kn_dec tX4_readSign 24 rfl) rfl (lv_at hl 1 rfl) ?_
  refine lv_bipush (v := (-21)) hx hb (kn_dec tX4_readSign 25 rfl) (by decide) ?_
  refine lv_icmp_eq (tgt := 64) hx hb (kn_dec tX4_readSign 26 rfl) (by decide) (fun c4 => ?_) (fun c4 => ?_)
  · have h := h.1 c4
    refine lv_iconst (v := (2)) hx hb (kn_dec tX4_readSign 30 rfl) (by decide) ?_
    refine lv_goto (tgt := 69) hx hb (kn_dec tX4_readSign 31 rfl) (by decide) ?_
    exact wX4_readSign_b69 X e_r_0 e_q_0 e_q_1 _ _ _ _ _ _ _  I (lv_sub hl [1] rfl) h
  · have h := h.2 c4
    refine lv_iload_n hx hb (kn_dec tX4_readSign 27 rfl) rfl (lv_at hl 1 rfl) ?_
    refine lv_bipush (v := (-23)) hx hb (kn_dec tX4_readSign 28 rfl) (by decide) ?_
    refine lv_icmp_ne (tgt := 68) hx hb (kn_dec tX4_readSign 29 rfl) (by decide) (fun c5 => ?_) (fun c5 => ?_)
    · have h := h.1 c5
      refine lv_iconst (v := (1)) hx hb (kn_dec tX4_readSign 32 rfl) (by decide) ?_
      exact wX4_readSign_b69 X e_r_0 e_q_0 e_q_1 _ _ _ _ _ _ _  I (lv_sub hl [1] rfl) h
    · have h := h.2 c5
      refine lv_iconst (v := (2)) hx hb (kn_dec tX4_readSign 30 rfl) (by decide) ?_
      refine lv_goto (tgt := 69) hx hb (kn_dec tX4_readSign 31 rfl) (by decide) ?_
      exact wX4_readSign_b69 X e_r_0 e_q_0 e_q_1 _ _ _ _ _ _ _  I (lv_sub hl [1] rfl) h
def PX4_readSign  (v_q : OV) (v_r : OV) (v_u : OV) (v_t : OV) (post : Int32 → OV → OV → Prop) : Prop := (PX2_next v_r v_t (fun r2 v_r1 => (PX2_behind v_r1 v_t (fun r4 => (PX4_comparison r2 r4 (fun r6 => ((¬ r6 = ((0 : Int32)) → PX4_readSign_b37 v_u v_t post r6 v_q v_r1) ∧ (r6 = ((0 : Int32)) → (PX2_failAt v_r1 v_t (v_r1.1 2) ((0 : Int32)) (fun v_r9 => PX4_readSign_b37 v_u v_t post r6 v_q v_r9))))))))))
set_option maxRecDepth 100000 in
set_option maxHeartbeats 1000000 in
theorem ctX4_readSign {l : Launch} {D : va_G} {tc : Nat → ClassId} {Z : (Nat → Nat) × (Nat → Nat)}  {ad_q : Nat → Nat} {ad_r : Nat → Nat} {ad_u : Nat → Nat} {ad_t : Nat → Nat} {v_q : OV} {v_r : OV} {v_u : OV} {v_t : OV} (e_r_0 : ad_r (0 + 1) = ad_t (0 + 1)) (e_q_0 : ad_q (0 + 1) = ad_r 0) (e_q_1 : ad_q (1 + 1) = ad_u 0)   {post : Int32 → OV → OV → Prop} (h : PX4_readSign  v_q v_r v_u v_t post) : CTi l D tc Z yX4_readSign (Cond.code yX4_readSign cX4_readSign 2 (some .int) :: kn_all) rmX4_readSign 0 0 [.ref (ad_q 0)] [(kRuleReader, ad_q, v_q), (kReader, ad_r, v_r), (kRule, ad_u, v_u), (kTin, ad_t, v_t)] (fun (u : OV × OV) => [(kRuleReader, ad_q, u.1), (kReader, ad_r, u.2), (kRule, ad_u, v_u), (kTin, ad_t, v_t)]) (fun (r : Int32) (u : OV × OV) => post r u.1 u.2) := by
  refine kn_ofi (cc := cX4_readSign) (nL := 2) (ret := (some .int)) (lv := [(0, .ref (ad_q 0))]) (by decide) (Nat.le_of_ble_eq_true rfl) rfl (fun p e s m below meth c ls X I hl _ => ?_)
  obtain ⟨S0, hr, hlocks, hK, hZ, hA⟩ := id X
  obtain ⟨hx, hb, hml, hown, hts⟩ := id S0
  unfold PX4_readSign at h
  refine lv_aload_n hx hb (kn_dec tX4_readSign 0 rfl) rfl (lv_at hl 0 rfl) ?_
  refine kw_getl hx hb hts inX4 hown hK I 0 rfl rfl 0 (by decide) rfl (hts _ q1_94) (kn_dec tX4_readSign 1 rfl) e_q_0 ?_
  refine kw_calli (wc := [(kReader, ad_r, _), (kTin, ad_t, _)]) (wr := [(kRuleReader, ad_q, _), (kRule, ad_u, _)]) I hA [1, 3] [0, 2] rfl rfl (by decide) (by decide) (kn_runV (As := []) S0 hK hZ hA I ((ctX2_next e_r_0 h).met _) (kn_cwV 0 hts q3_76 q2_175 q2_176 q1_3 q2_177 rfl rfl (by decide +kernel) ⟨(Nat.le_of_ble_eq_true rfl), (Nat.le_of_ble_eq_true rfl)⟩) [1, 3] rfl (by decide) 1 rfl rfl rfl rfl hl.1 rfl (Nat.le_of_ble_eq_true rfl) (kn_dec tX4_readSign 2 rfl) ⟨(Nat.le_of_ble_eq_true rfl), (Nat.le_of_ble_eq_true rfl)⟩) (fun r2 u3 H locs h I => ?_)
  have I : kn_I D tc (kn_A _ s.heap.size) s.heap [(kRuleReader, ad_q, _), (kReader, ad_r, _), (kRule, ad_u, _), (kTin, ad_t, _)] _ _ := I.sub [0, 2, 1, 3] (by decide) rfl
  refine lv_aload_n hx hb (kn_dec tX4_readSign 3 rfl) rfl (lv_at hl 0 rfl) ?_
  refine kw_getl hx hb hts inX4 hown hK I 0 rfl rfl 0 (by decide) rfl (hts _ q1_94) (kn_dec tX4_readSign 4 rfl) e_q_0 ?_
  refine kw_calli (wc := [(kReader, ad_r, _), (kTin, ad_t, _)]) (wr := [(kRuleReader, ad_q, _), (kRule, ad_u, _)]) I hA [1, 3] [0, 2] rfl rfl (by decide) (by decide) (kn_runV (As := []) S0 hK hZ hA I ((ctX2_behind e_r_0 h).met _) (kn_cwV 0 hts q3_116 q3_117 q3_118 q1_3 q3_119 rfl rfl (by decide +kernel) ⟨(Nat.le_of_ble_eq_true rfl), (Nat.le_of_ble_eq_true rfl)⟩) [1, 3] rfl (by decide) 1 rfl rfl rfl rfl hl.1 rfl (Nat.le_of_ble_eq_true rfl) (kn_dec tX4_readSign 5 rfl) ⟨(Nat.le_of_ble_eq_true rfl), (Nat.le_of_ble_eq_true rfl)⟩) (fun r4 u5 H locs h I => ?_)
  have I : kn_I D tc (kn_A _ s.heap.size) s.heap [(kRuleReader, ad_q, _), (kReader, ad_r, _), (kRule, ad_u, _), (kTin, ad_t, _)] _ _ := I.sub [0, 2, 1, 3] (by decide) rfl
  refine kw_calli (wc := []) (wr := [(kRuleReader, ad_q, _), (kReader, ad_r, _), (kRule, ad_u, _), (kTin, ad_t, _)]) I hA [] [0, 1, 2, 3] rfl rfl (by decide) (by decide) (kn_runS (As := [.int _, .int _]) S0 hK hZ hA I ((ctX4_comparison h).met _) (kn_cwS 2 hts q3_120 q3_121 q1_4 q3_122 rfl rfl (by decide +kernel) ⟨(Nat.le_of_ble_eq_true rfl), (Nat.le_of_ble_eq_true rfl)⟩) [] rfl (by decide) rfl hl.1 rfl (Nat.le_of_ble_eq_true rfl) (kn_dec tX4_readSign 6 rfl) ⟨(Nat.le_of_ble_eq_true rfl), (Nat.le_of_ble_eq_true rfl)⟩) (fun r6 u7 H locs h I => ?_)
  have I : kn_I D tc (kn_A _ s.heap.size) s.heap [(kRuleReader, ad_q, _), (kReader, ad_r, _), (kRule, ad_u, _), (kTin, ad_t, _)] _ _ := I
  refine lv_istore_n (lv' := [(1, .int _), (0, .ref (ad_q 0))]) hx hb (kn_dec tX4_readSign 7 rfl) rfl hl (by decide) rfl (fun ls hl => ?_)
  refine lv_iload_n hx hb (kn_dec tX4_readSign 8 rfl) rfl (lv_at hl 0 rfl) ?_
  refine lv_if_ne (tgt := 37) hx hb (kn_dec tX4_readSign 9 rfl) (by decide) (fun c8 => ?_) (fun c8 => ?_)
  · have h := h.1 c8
    exact wX4_readSign_b37 X e_r_0 e_q_0 e_q_1 _ _ _ _ _ _  I (lv_sub hl [1, 0] rfl) h
  · have h := h.2 c8
    refine lv_aload_n hx hb (kn_dec tX4_readSign 10 rfl) rfl (lv_at hl 1 rfl) ?_
    refine kw_getl hx hb hts inX4 hown hK I 0 rfl rfl 0 (by decide) rfl (hts _ q1_94) (kn_dec tX4_readSign 11 rfl) e_q_0 ?_
    refine lv_aload_n hx hb (kn_dec tX4_readSign 12 rfl) rfl (lv_at hl 1 rfl) ?_
    refine kw_getl hx hb hts inX4 hown hK I 0 rfl rfl 0 (by decide) rfl (hts _ q1_94) (kn_dec tX4_readSign 13 rfl) e_q_0 ?_
    refine kw_geti hx hb hts inX2 hown hK I 1 rfl rfl 2 (by decide) rfl (hts _ q1_42) (kn_dec tX4_readSign 14 rfl) ?_
    refine lv_iconst (v := (0)) hx hb (kn_dec tX4_readSign 15 rfl) (by decide) ?_
    refine kw_callv (wc := [(kReader, ad_r, _), (kTin, ad_t, _)]) (wr := [(kRuleReader, ad_q, _), (kRule, ad_u, _)]) I hA [1, 3] [0, 2] rfl rfl (by decide) (by decide) (kn_runV (As := [.int _, .int _]) S0 hK hZ hA I ((ctX2_failAt e_r_0 h).met _) (kn_cwV 2 hts q3_62 q2_235 q2_236 q1_3 q2_237 rfl rfl (by decide +kernel) ⟨(Nat.le_of_ble_eq_true rfl), (Nat.le_of_ble_eq_true rfl)⟩) [1, 3] rfl (by decide) 1 rfl rfl rfl rfl hl.1 rfl (Nat.le_of_ble_eq_true rfl) (kn_dec tX4_readSign 16 rfl) ⟨(Nat.le_of_ble_eq_true rfl), (Nat.le_of_ble_eq_true rfl)⟩) (fun u10 H locs h I => ?_)
    have I : kn_I D tc (kn_A _ s.heap.size) s.heap [(kRuleReader, ad_q, _), (kReader, ad_r, _), (kRule, ad_u, _), (kTin, ad_t, _)] _ _ := I.sub [0, 2, 1, 3] (by decide) rfl
    exact wX4_readSign_b37 X e_r_0 e_q_0 e_q_1 _ _ _ _ _ _  I (lv_sub hl [1, 0] rfl) h

/-! X4_beginClause -/
abbrev rmX4_beginClause : Room := { frames := 7, cells := 0, slots := 0, locals := 156 }
def PX4_beginClause  (v_q : OV) (v_r : OV) (v_u : OV) (v_t : OV) (a1 : Int32) (post : OV → Prop) : Prop := (PX2_word v_r v_t 2 (fun r2 v_r1 => ((¬ r2 = ((-1 : Int32)) → ((a1 < ((12 : Int32)) → (PX2_takeWord v_r1 v_t 2 (fun r7 v_r6 => post v_r6))) ∧ (¬ a1 < ((12 : Int32)) → (PX2_failAt v_r1 v_t (v_r1.1 2) ((4 : Int32)) (fun v_r9 => post v_r9))))) ∧ (r2 = ((-1 : Int32)) → (PX2_failAt v_r1 v_t (v_r1.1 2) ((0 : Int32)) (fun v_r11 => post v_r11))))))
set_option maxRecDepth 100000 in
set_option maxHeartbeats 1000000 in
theorem ctX4_beginClause {l : Launch} {D : va_G} {tc : Nat → ClassId} {Z : (Nat → Nat) × (Nat → Nat)}  {ad_q : Nat → Nat} {ad_r : Nat → Nat} {ad_u : Nat → Nat} {ad_t : Nat → Nat} {v_q : OV} {v_r : OV} {v_u : OV} {v_t : OV} {a1 : Int32} (e_r_0 : ad_r (0 + 1) = ad_t (0 + 1)) (e_q_0 : ad_q (0 + 1) = ad_r 0) (e_q_1 : ad_q (1 + 1) = ad_u 0)   {post : OV → Prop} (h : PX4_beginClause  v_q v_r v_u v_t a1 post) : CTv l D tc Z yX4_beginClause (Cond.code yX4_beginClause cX4_beginClause 2 none :: kn_all) rmX4_beginClause 0 0 [.ref (ad_q 0), .int a1] [(kRuleReader, ad_q, v_q), (kReader, ad_r, v_r), (kRule, ad_u, v_u), (kTin, ad_t, v_t)] (fun (u : OV) => [(kRuleReader, ad_q, v_q), (kReader, ad_r, u), (kRule, ad_u, v_u), (kTin, ad_t, v_t)]) (fun (u : OV) => post u) := by
  refine kn_ofv (cc := cX4_beginClause) (nL := 2) (ret := none) (lv := [(0, .ref (ad_q 0)), (1, .int a1)]) (by decide) (Nat.le_of_ble_eq_true rfl) rfl (fun p e s m below meth c ls X I hl _ => ?_)
  obtain ⟨S0, hr, hlocks, hK, hZ, hA⟩ := id X
  obtain ⟨hx, hb, hml, hown, hts⟩ := id S0
  unfold PX4_beginClause at h
  refine lv_aload_n hx hb (kn_dec tX4_beginClause 0 rfl) rfl (lv_at hl 0 rfl) ?_
  refine kw_getl hx hb hts inX4 hown hK I 0 rfl rfl 0 (by decide) rfl (hts _ q1_94) (kn_dec tX4_beginClause 1 rfl) e_q_0 ?_
  refine va_ldcS hx hb hown (hZ.1 2 _ rfl).1 (kn_dec tX4_beginClause 2 rfl) ?_
  refine kw_calli (wc := [(kReader, ad_r, _), (kTin, ad_t, _)]) (wr := [(kRuleReader, ad_q, _), (kRule, ad_u, _)]) I hA [1, 3] [0, 2] rfl rfl (by decide) (by decide) (kn_runV (As := [.ref (Z.1 2)]) S0 hK hZ hA I ((ctX2_word e_r_0 h).met _) (kn_cwV 1 hts q3_61 q2_171 q2_172 q1_3 q2_173 rfl rfl (by decide +kernel) ⟨(Nat.le_of_ble_eq_true rfl), (Nat.le_of_ble_eq_true rfl)⟩) [1, 3] rfl (by decide) 1 rfl rfl rfl rfl hl.1 rfl (Nat.le_of_ble_eq_true rfl) (kn_dec tX4_beginClause 3 rfl) ⟨(Nat.le_of_ble_eq_true rfl), (Nat.le_of_ble_eq_true rfl)⟩) (fun r2 u3 H locs h I => ?_)
  have I : kn_I D tc (kn_A _ s.heap.size) s.heap [(kRuleReader, ad_q, _), (kReader, ad_r, _), (kRule, ad_u, _), (kTin, ad_t, _)] _ _ := I.sub [0, 2, 1, 3] (by decide) rfl
  refine lv_iconst (v := (-1)) hx hb (kn_dec tX4_beginClause 4 rfl) (by decide) ?_
  refine lv_icmp_ne (tgt := 31) hx hb (kn_dec tX4_beginClause 5 rfl) (by decide) (fun c4 => ?_) (fun c4 => ?_)
  · have h := h.1 c4
    refine lv_iload_n hx hb (kn_dec tX4_beginClause 14 rfl) rfl (lv_at hl 1 rfl) ?_
    refine lv_bipush (v := (12)) hx hb (kn_dec tX4_beginClause 15 rfl) (by decide) ?_
    refine lv_icmp_lt (tgt := 55) hx hb (kn_dec tX4_beginClause 16 rfl) (by decide) (fun c5 => ?_) (fun c5 => ?_)
    · have h := h.1 c5
      refine lv_aload_n hx hb (kn_dec tX4_beginClause 25 rfl) rfl (lv_at hl 0 rfl) ?_
      refine kw_getl hx hb hts inX4 hown hK I 0 rfl rfl 0 (by decide) rfl (hts _ q1_94) (kn_dec tX4_beginClause 26 rfl) e_q_0 ?_
      refine va_ldcS hx hb hown (hZ.1 2 _ rfl).1 (kn_dec tX4_beginClause 27 rfl) ?_
      refine kw_calli (wc := [(kReader, ad_r, _), (kTin, ad_t, _)]) (wr := [(kRuleReader, ad_q, _), (kRule, ad_u, _)]) I hA [1, 3] [0, 2] rfl rfl (by decide) (by decide) (kn_runV (As := [.ref (Z.1 2)]) S0 hK hZ hA I ((ctX2_takeWord e_r_0 h).met _) (kn_cwV 1 hts q3_63 q3_64 q3_65 q1_3 q3_66 rfl rfl (by decide +kernel) ⟨(Nat.le_of_ble_eq_true rfl), (Nat.le_of_ble_eq_true rfl)⟩) [1, 3] rfl (by decide) 1 rfl rfl rfl rfl hl.1 rfl (Nat.le_of_ble_eq_true rfl) (kn_dec tX4_beginClause 28 rfl) ⟨(Nat.le_of_ble_eq_true rfl), (Nat.le_of_ble_eq_true rfl)⟩) (fun r7 u8 H locs h I => ?_)
      obtain ⟨hz_r7, h⟩ := h
      have I : kn_I D tc (kn_A _ s.heap.size) s.heap [(kRuleReader, ad_q, _), (kReader, ad_r, _), (kRule, ad_u, _), (kTin, ad_t, _)] _ _ := I.sub [0, 2, 1, 3] (by decide) rfl
      refine lv_pop hx hb (kn_dec tX4_beginClause 29 rfl) rfl ?_
      exact kw_vret hx hb hr hlocks I _ rfl h (kn_dec tX4_beginClause 30 rfl)
    · have h := h.2 c5
      refine lv_aload_n hx hb (kn_dec tX4_beginClause 17 rfl) rfl (lv_at hl 0 rfl) ?_
      refine kw_getl hx hb hts inX4 hown hK I 0 rfl rfl 0 (by decide) rfl (hts _ q1_94) (kn_dec tX4_beginClause 18 rfl) e_q_0 ?_
      refine lv_aload_n hx hb (kn_dec tX4_beginClause 19 rfl) rfl (lv_at hl 0 rfl) ?_
      refine kw_getl hx hb hts inX4 hown hK I 0 rfl rfl 0 (by decide) rfl (hts _ q1_94) (kn_dec tX4_beginClause 20 rfl) e_q_0 ?_
      refine kw_geti hx hb hts inX2 hown hK I 1 rfl rfl 2 (by decide) rfl (hts _ q1_42) (kn_dec tX4_beginClause 21 rfl) ?_
      refine lv_iconst (v := (4)) hx hb (kn_dec tX4_beginClause 22 rfl) (by decide) ?_
      refine kw_callv (wc := [(kReader, ad_r, _), (kTin, ad_t, _)]) (wr := [(kRuleReader, ad_q, _), (kRule, ad_u, _)]) I hA [1, 3] [0, 2] rfl rfl (by decide) (by decide) (kn_runV (As := [.int _, .int _]) S0 hK hZ hA I ((ctX2_failAt e_r_0 h).met _) (kn_cwV 2 hts q3_62 q2_235 q2_236 q1_3 q2_237 rfl rfl (by decide +kernel) ⟨(Nat.le_of_ble_eq_true rfl), (Nat.le_of_ble_eq_true rfl)⟩) [1, 3] rfl (by decide) 1 rfl rfl rfl rfl hl.1 rfl (Nat.le_of_ble_eq_true rfl) (kn_dec tX4_beginClause 23 rfl) ⟨(Nat.le_of_ble_eq_true rfl), (Nat.le_of_ble_eq_true rfl)⟩) (fun u10 H locs h I => ?_)
      have I : kn_I D tc (kn_A _ s.heap.size) s.heap [(kRuleReader, ad_q, _), (kReader, ad_r, _), (kRule, ad_u, _), (kTin, ad_t, _)] _ _ := I.sub [0, 2, 1, 3] (by decide) rfl
      refine lv_goto (tgt := 65) hx hb (kn_dec tX4_beginClause 24 rfl) (by decide) ?_
      exact kw_vret hx hb hr hlocks I _ rfl h (kn_dec tX4_beginClause 30 rfl)
  · have h := h.2 c4
    refine lv_aload_n hx hb (kn_dec tX4_beginClause 6 rfl) rfl (lv_at hl 0 rfl) ?_
    refine kw_getl hx hb hts inX4 hown hK I 0 rfl rfl 0 (by decide) rfl (hts _ q1_94) (kn_dec tX4_beginClause 7 rfl) e_q_0 ?_
    refine lv_aload_n hx hb (kn_dec tX4_beginClause 8 rfl) rfl (lv_at hl 0 rfl) ?_
    refine kw_getl hx hb hts inX4 hown hK I 0 rfl rfl 0 (by decide) rfl (hts _ q1_94) (kn_dec tX4_beginClause 9 rfl) e_q_0 ?_
    refine kw_geti hx hb hts inX2 hown hK I 1 rfl rfl 2 (by decide) rfl (hts _ q1_42) (kn_dec tX4_beginClause 10 rfl) ?_
    refine lv_iconst (v := (0)) hx hb (kn_dec tX4_beginClause 11 rfl) (by decide) ?_
    refine kw_callv (wc := [(kReader, ad_r, _), (kTin, ad_t, _)]) (wr := [(kRuleReader, ad_q, _), (kRule, ad_u, _)]) I hA [1, 3] [0, 2] rfl rfl (by decide) (by decide) (kn_runV (As := [.int _, .int _]) S0 hK hZ hA I ((ctX2_failAt e_r_0 h).met _) (kn_cwV 2 hts q3_62 q2_235 q2_236 q1_3 q2_237 rfl rfl (by decide +kernel) ⟨(Nat.le_of_ble_eq_true rfl), (Nat.le_of_ble_eq_true rfl)⟩) [1, 3] rfl (by decide) 1 rfl rfl rfl rfl hl.1 rfl (Nat.le_of_ble_eq_true rfl) (kn_dec tX4_beginClause 12 rfl) ⟨(Nat.le_of_ble_eq_true rfl), (Nat.le_of_ble_eq_true rfl)⟩) (fun u12 H locs h I => ?_)
    have I : kn_I D tc (kn_A _ s.heap.size) s.heap [(kRuleReader, ad_q, _), (kReader, ad_r, _), (kRule, ad_u, _), (kTin, ad_t, _)] _ _ := I.sub [0, 2, 1, 3] (by decide) rfl
    refine lv_goto (tgt := 65) hx hb (kn_dec tX4_beginClause 13 rfl) (by decide) ?_
    exact kw_vret hx hb hr hlocks I _ rfl h (kn_dec tX4_beginClause 30 rfl)

/-! X2_open -/
abbrev rmX2_open : Room := { frames := 1, cells := 0, slots := 0, locals := 64 }
def PX2_open  (v_r : OV) (v_t : OV) (a2 : Int32) (post : OV → Prop) : Prop := (∀ x1 : Int32, x1 = (if ((400 : Int32)) < a2 then ((400 : Int32)) else a2) → (∀ v_r2 : OV, v_r2 = si v_r 1 x1 → (∀ v_r3 : OV, v_r3 = si v_r2 2 ((0 : Int32)) → (∀ v_r4 : OV, v_r4 = si v_r3 3 ((0 : Int32)) → post v_r4))))
set_option maxRecDepth 100000 in
set_option maxHeartbeats 1000000 in
theorem ctX2_open {l : Launch} {D : va_G} {tc : Nat → ClassId} {Z : (Nat → Nat) × (Nat → Nat)}  {ad_r : Nat → Nat} {ad_t : Nat → Nat} {v_r : OV} {v_t : OV} {a2 : Int32}    {post : OV → Prop} (h : PX2_open  v_r v_t a2 post) : CTv l D tc Z yX2_open (Cond.code yX2_open cX2_open 3 none :: kn_all) rmX2_open 0 0 [.ref (ad_r 0), .ref (ad_t (0 + 1)), .int a2] [(kReader, ad_r, v_r), (kTin, ad_t, v_t)] (fun (u : OV) => [(kReader, (kn_up ad_r 0 (ad_t (0 + 1))), u), (kTin, ad_t, v_t)]) (fun (u : OV) => post u) := by
  refine kn_ofv (cc := cX2_open) (nL := 3) (ret := none) (lv := [(0, .ref (ad_r 0)), (1, .ref (ad_t (0 + 1))), (2, .int a2)]) (by decide) (Nat.le_of_ble_eq_true rfl) rfl (fun p e s m below meth c ls X I hl _ => ?_)
  obtain ⟨S0, hr, hlocks, hK, hZ, hA⟩ := id X
  obtain ⟨hx, hb, hml, hown, hts⟩ := id S0
  unfold PX2_open at h
  refine lv_aload_n hx hb (kn_dec tX2_open 0 rfl) rfl (lv_at hl 0 rfl) ?_
  refine lv_aload_n hx hb (kn_dec tX2_open 1 rfl) rfl (lv_at hl 1 rfl) ?_
  refine kw_putl hx hb hts inX2 tyX2 tyX2_ok nmX2 hown hK I 0 rfl rfl 0 (by decide) rfl nkReader_0 (by decide) (hts _ q1_38) rfl rfl rfl (kn_dec tX2_open 2 rfl) (fun H locs I => ?_)
  have I : kn_I D tc (kn_A _ s.heap.size) s.heap [(kReader, (kn_up ad_r 0 (ad_t (0 + 1))), _), (kTin, ad_t, _)] _ _ := I
  refine lv_aload_n hx hb (kn_dec tX2_open 3 rfl) rfl (lv_at hl 0 rfl) ?_
  refine lv_iload_n hx hb (kn_dec tX2_open 4 rfl) rfl (lv_at hl 2 rfl) ?_
  refine lv_aload_n hx hb (kn_dec tX2_open 5 rfl) rfl (lv_at hl 1 rfl) ?_
  refine kw_alen hx hb hK I 1 rfl 0 0 400 (List.mem_of_getElem? (i := 0) rfl) rfl (x := 400) (by decide) (kn_dec tX2_open 6 rfl) ?_
  refine va_mmin hx hb (hml.trans hl.1.symm) hown (hts _ q2_162) (hts _ q2_163) (hts _ q1_11) (hts _ q2_164) (Nat.le_of_ble_eq_true rfl) (Nat.le_of_ble_eq_true rfl) (Nat.le_of_ble_eq_true rfl) (Nat.le_of_ble_eq_true rfl) (kn_dec tX2_open 7 rfl) ?_
  refine lv_topi (fun x1 ex1 => ?_)
  have h := h x1 ex1
  refine kw_puti (ad := (kn_up ad_r 0 (ad_t (0 + 1)))) hx hb hts inX2 tyX2 tyX2_ok nmX2 hown hK I 0 rfl rfl 1 (by decide) rfl (hts _ q1_39) rfl rfl rfl (kn_dec tX2_open 8 rfl) (fun v_r2 ev_r2 H locs I => ?_)
  have h := h v_r2 ev_r2
  have I : kn_I D tc (kn_A _ s.heap.size) s.heap [(kReader, (kn_up ad_r 0 (ad_t (0 + 1))), _), (kTin, ad_t, _)] _ _ := I
  refine lv_aload_n hx hb (kn_dec tX2_open 9 rfl) rfl (lv_at hl 0 rfl) ?_
  refine lv_iconst (v := (0)) hx hb (kn_dec tX2_open 10 rfl) (by decide) ?_
  refine kw_puti (ad := (kn_up ad_r 0 (ad_t (0 + 1)))) hx hb hts inX2 tyX2 tyX2_ok nmX2 hown hK I 0 rfl rfl 2 (by decide) rfl (hts _ q1_40) rfl rfl rfl (kn_dec tX2_open 11 rfl) (fun v_r3 ev_r3 H locs I => ?_)
  have h := h v_r3 ev_r3
  have I : kn_I D tc (kn_A _ s.heap.size) s.heap [(kReader, (kn_up ad_r 0 (ad_t (0 + 1))), _), (kTin, ad_t, _)] _ _ := I
  refine lv_aload_n hx hb (kn_dec tX2_open 12 rfl) rfl (lv_at hl 0 rfl) ?_
  refine lv_iconst (v := (0)) hx hb (kn_dec tX2_open 13 rfl) (by decide) ?_
  refine kw_puti (ad := (kn_up ad_r 0 (ad_t (0 + 1)))) hx hb hts inX2 tyX2 tyX2_ok nmX2 hown hK I 0 rfl rfl 3 (by decide) rfl (hts _ q1_43) rfl rfl rfl (kn_dec tX2_open 14 rfl) (fun v_r4 ev_r4 H locs I => ?_)
  have h := h v_r4 ev_r4
  have I : kn_I D tc (kn_A _ s.heap.size) s.heap [(kReader, (kn_up ad_r 0 (ad_t (0 + 1))), _), (kTin, ad_t, _)] _ _ := I
  exact kw_vret hx hb hr hlocks I _ rfl h (kn_dec tX2_open 15 rfl)

/-! X1_read -/
abbrev rmX1_read : Room := { frames := 7, cells := 0, slots := 0, locals := 157 }
def PX1_read_b65 (v_g : OV) (v_t : OV)  (post : Int32 → OV → OV → Prop) (t1 : Int32) (v_r : OV) (v_h : OV) : Prop := (∀ v_h1 : OV, v_h1 = si v_h 0 t1 → post (v_r.1 3) v_r v_h1)
set_option maxRecDepth 100000 in
set_option maxHeartbeats 1000000 in
theorem wX1_read_b65 {v_g : OV} {v_t : OV}  {post : Int32 → OV → OV → Prop} {ad_g : Nat → Nat} {ad_r : Nat → Nat} {ad_t : Nat → Nat} {ad_h : Nat → Nat} (X : kn_X p s m args meth c cX1_read 6 (some .int) RX1 kn_all D tc Z (kn_A w0 s.heap.size)) (e_g_0 : ad_g (0 + 1) = ad_r 0) (e_r_0 : ad_r (0 + 1) = ad_t (0 + 1))   : ∀ (H : Heap) (locs : List Loc) (ls : Array Slot) (t1 : Int32) (v_r : OV) (v_h : OV), (hz_t1 : t1 = 0 ∨ t1 = 1) → kn_I D tc (kn_A w0 s.heap.size) s.heap [(kHillReader, ad_g, v_g), (kReader, ad_r, v_r), (kTin, ad_t, v_t), (kHill, ad_h, v_h)] H locs → lv_has ls 6 [(0, .ref (ad_g 0))] → PX1_read_b65 v_g v_t post t1 v_r v_h → W p l e rmX1_read s m args below meth c H locs 0 0 (kn_Qi D tc w0 (fun (u : OV × OV) => [(kHillReader, ad_g, v_g), (kReader, ad_r, u.1), (kTin, ad_t, v_t), (kHill, ad_h, u.2)]) (fun (r : Int32) (u : OV × OV) => post r u.1 u.2) below args s 0 0) (F0 m 65 ls [.int t1, .ref (ad_h 0)]) := by
  obtain ⟨S0, hr, hlocks, hK, hZ, hA⟩ := id X
  obtain ⟨hx, hb, hml, hown, hts⟩ := id S0
  intro H locs ls t1 v_r v_h hz_t1 I hl h
  unfold PX1_read_b65 at h
  refine kw_puti hx hb hts inX0 tyX0 tyX0_ok nmX0 hown hK I 3 rfl rfl 0 (by decide) rfl (hts _ q1_118) rfl (kn_nz hz_t1) (kn_fz hz_t1) (kn_dec tX1_read 32 rfl) (fun v_h1 ev_h1 H locs I => ?_)
  have h := h v_h1 ev_h1
  have I : kn_I D tc (kn_A w0 s.heap.size) s.heap [(kHillReader, ad_g, _), (kReader, ad_r, _), (kTin, ad_t, _), (kHill, ad_h, _)] _ _ := I
  refine lv_aload_n hx hb (kn_dec tX1_read 33 rfl) rfl (lv_at hl 0 rfl) ?_
  refine kw_getl hx hb hts inX1 hown hK I 0 rfl rfl 0 (by decide) rfl (hts _ q1_56) (kn_dec tX1_read 34 rfl) e_g_0 ?_
  refine kw_geti hx hb hts inX2 hown hK I 1 rfl rfl 3 (by decide) rfl (hts _ q1_44) (kn_dec tX1_read 35 rfl) ?_
  exact kw_iret hx hb hr hlocks I (v_r, v_h1) rfl h (kn_dec tX1_read 36 rfl)
def PX1_read_b49 (v_g : OV) (v_t : OV)  (post : Int32 → OV → OV → Prop) (v_r : OV) (v_h : OV) : Prop := ((¬ (v_r.1 3) = ((0 : Int32)) → PX1_read_b65 v_g v_t post ((0 : Int32)) v_r v_h) ∧ ((v_r.1 3) = ((0 : Int32)) → PX1_read_b65 v_g v_t post ((1 : Int32)) v_r v_h))
set_option maxRecDepth 100000 in
set_option maxHeartbeats 1000000 in
theorem wX1_read_b49 {v_g : OV} {v_t : OV}  {post : Int32 → OV → OV → Prop} {ad_g : Nat → Nat} {ad_r : Nat → Nat} {ad_t : Nat → Nat} {ad_h : Nat → Nat} (X : kn_X p s m args meth c cX1_read 6 (some .int) RX1 kn_all D tc Z (kn_A w0 s.heap.size)) (e_g_0 : ad_g (0 + 1) = ad_r 0) (e_r_0 : ad_r (0 + 1) = ad_t (0 + 1))   : ∀ (H : Heap) (locs : List Loc) (ls : Array Slot) (v_r : OV) (v_h : OV), kn_I D tc (kn_A w0 s.heap.size) s.heap [(kHillReader, ad_g, v_g), (kReader, ad_r, v_r), (kTin, ad_t, v_t), (kHill, ad_h, v_h)] H locs → lv_has ls 6 [(0, .ref (ad_g 0)), (1, .ref (ad_h 0))] → PX1_read_b49 v_g v_t post v_r v_h → W p l e rmX1_read s m args below meth c H locs 0 0 (kn_Qi D tc w0 (fun (u : OV × OV) => [(kHillReader, ad_g, v_g), (kReader, ad_r, u.1), (kTin, ad_t, v_t), (kHill, ad_h, u.2)]) (fun (r : Int32) (u : OV × OV) => post r u.1 u.2) below args s 0 0) (F0 m 49 ls []) := by
  obtain ⟨S0, hr, hlocks, hK, hZ, hA⟩ := id X
  obtain ⟨hx, hb, hml, hown, hts⟩ := id S0
  intro H locs ls v_r v_h I hl h
  unfold PX1_read_b49 at h
  refine lv_aload_n hx hb (kn_dec tX1_read 24 rfl) rfl (lv_at hl 1 rfl) ?_
  refine lv_aload_n hx hb (kn_dec tX1_read 25 rfl) rfl (lv_at hl 0 rfl) ?_
  refine kw_getl hx hb hts inX1 hown hK I 0 rfl rfl 0 (by decide) rfl (hts _ q1_56) (kn_dec tX1_read 26 rfl) e_g_0 ?_
  refine kw_geti hx hb hts inX2 hown hK I 1 rfl rfl 3 (by decide) rfl (hts _ q1_44) (kn_dec tX1_read 27 rfl) ?_
  refine lv_if_ne (tgt := 64) hx hb (kn_dec tX1_read 28 rfl) (by decide) (fun c1 => ?_) (fun c1 => ?_)
  · have h := h.1 c1
    refine lv_iconst (v := (0)) hx hb (kn_dec tX1_read 31 rfl) (by decide) ?_
    exact wX1_read_b65 X e_g_0 e_r_0 _ _ _ _ _ _ (Or.inl rfl) I (lv_sub hl [0] rfl) h
  · have h := h.2 c1
    refine lv_iconst (v := (1)) hx hb (kn_dec tX1_read 29 rfl) (by decide) ?_
    refine lv_goto (tgt := 65) hx hb (kn_dec tX1_read 30 rfl) (by decide) ?_
    exact wX1_read_b65 X e_g_0 e_r_0 _ _ _ _ _ _ (Or.inr rfl) I (lv_sub hl [0] rfl) h
def PX1_read_L15 (v_g : OV) (v_t : OV)  (post : Int32 → OV → OV → Prop) : Nat → Int32 → Int32 → OV → OV → Prop
  | 0, _, _, _, _ => False
  | n + 1, y4, y5, v_r, v_h => ((((40 : Int32)) < y5 → PX1_read_b49 v_g v_t post v_r v_h) ∧ (¬ ((40 : Int32)) < y5 → ((y4 = ((0 : Int32)) → PX1_read_b49 v_g v_t post v_r v_h) ∧ (¬ y4 = ((0 : Int32)) → (PX1_readClause v_g v_r v_t v_h y5 (fun v_r3 v_h4 => (PX2_hasNextClause v_r3 v_t (fun r7 v_r6 => (∀ x9 : Int32, x9 = y5 + (1 : Int32) → PX1_read_L15 v_g v_t post n r7 x9 v_r6 v_h4)))))))))
set_option maxRecDepth 100000 in
set_option maxHeartbeats 1000000 in
theorem wX1_read_L15 {v_g : OV} {v_t : OV}  {post : Int32 → OV → OV → Prop} {ad_g : Nat → Nat} {ad_r : Nat → Nat} {ad_t : Nat → Nat} {ad_h : Nat → Nat} (X : kn_X p s m args meth c cX1_read 6 (some .int) RX1 kn_all D tc Z (kn_A w0 s.heap.size)) (e_g_0 : ad_g (0 + 1) = ad_r 0) (e_r_0 : ad_r (0 + 1) = ad_t (0 + 1))   : ∀ n : Nat, ∀ (H : Heap) (locs : List Loc) (ls : Array Slot) (y4 : Int32) (y5 : Int32) (v_r : OV) (v_h : OV), (hz_y4 : y4 = 0 ∨ y4 = 1) → kn_I D tc (kn_A w0 s.heap.size) s.heap [(kHillReader, ad_g, v_g), (kReader, ad_r, v_r), (kTin, ad_t, v_t), (kHill, ad_h, v_h)] H locs → lv_has ls 6 [(0, .ref (ad_g 0)), (1, .ref (ad_h 0)), (4, .int y4), (5, .int y5)] → PX1_read_L15 v_g v_t post n y4 y5 v_r v_h → W p l e rmX1_read s m args below meth c H locs 0 0 (kn_Qi D tc w0 (fun (u : OV × OV) => [(kHillReader, ad_g, v_g), (kReader, ad_r, u.1), (kTin, ad_t, v_t), (kHill, ad_h, u.2)]) (fun (r : Int32) (u : OV × OV) => post r u.1 u.2) below args s 0 0) (F0 m 15 ls []) := by
  obtain ⟨S0, hr, hlocks, hK, hZ, hA⟩ := id X
  obtain ⟨hx, hb, hml, hown, hts⟩ := id S0
  intro n
  induction n with
  | zero =>
    intro H locs ls y4 y5 v_r v_h hz_y4 I hl h
    unfold PX1_read_L15 at h
    exact h.elim
  | succ n ih =>
    intro H locs ls y4 y5 v_r v_h hz_y4 I hl h
    unfold PX1_read_L15 at h
    refine lv_iload hx hb (kn_dec tX1_read 9 rfl) (lv_at hl 3 rfl) ?_
    refine lv_bipush (v := (40)) hx hb (kn_dec tX1_read 10 rfl) (by decide) ?_
    refine lv_icmp_gt (tgt := 49) hx hb (kn_dec tX1_read 11 rfl) (by decide) (fun c1 => ?_) (fun c1 => ?_)
    · have h := h.1 c1
      exact wX1_read_b49 X e_g_0 e_r_0 _ _ _ _ _  I (lv_sub hl [0, 1] rfl) h
    · have h := h.2 c1
      refine lv_iload hx hb (kn_dec tX1_read 12 rfl) (lv_at hl 2 rfl) ?_
      refine lv_if_eq (tgt := 49) hx hb (kn_dec tX1_read 13 rfl) (by decide) (fun c2 => ?_) (fun c2 => ?_)
      · have h := h.1 c2
        exact wX1_read_b49 X e_g_0 e_r_0 _ _ _ _ _  I (lv_sub hl [0, 1] rfl) h
      · have h := h.2 c2
        refine lv_aload_n hx hb (kn_dec tX1_read 14 rfl) rfl (lv_at hl 0 rfl) ?_
        refine lv_aload_n hx hb (kn_dec tX1_read 15 rfl) rfl (lv_at hl 1 rfl) ?_
        refine lv_iload hx hb (kn_dec tX1_read 16 rfl) (lv_at hl 3 rfl) ?_
        refine kw_callv (wc := [(kHillReader, ad_g, _), (kReader, ad_r, _), (kTin, ad_t, _), (kHill, ad_h, _)]) (wr := []) I hA [0, 1, 2, 3] [] rfl rfl (by decide) (by decide) (kn_runV (As := [.ref (ad_h 0), .int _]) S0 hK hZ hA I ((ctX1_readClause e_r_0 e_g_0 h).met _) (kn_cwV 2 hts q2_165 q2_167 q0_1 q1_2 q2_168 rfl rfl (by decide +kernel) ⟨(Nat.le_of_ble_eq_true rfl), (Nat.le_of_ble_eq_true rfl)⟩) [0, 1, 2, 3] rfl (by decide) 0 rfl rfl rfl rfl hl.1 rfl (Nat.le_of_ble_eq_true rfl) (kn_dec tX1_read 17 rfl) ⟨(Nat.le_of_ble_eq_true rfl), (Nat.le_of_ble_eq_true rfl)⟩) (fun u5 H locs h I => ?_)
        have I : kn_I D tc (kn_A w0 s.heap.size) s.heap [(kHillReader, ad_g, _), (kReader, ad_r, _), (kTin, ad_t, _), (kHill, ad_h, _)] _ _ := I
        refine lv_aload_n hx hb (kn_dec tX1_read 18 rfl) rfl (lv_at hl 0 rfl) ?_
        refine kw_getl hx hb hts inX1 hown hK I 0 rfl rfl 0 (by decide) rfl (hts _ q1_56) (kn_dec tX1_read 19 rfl) e_g_0 ?_
        refine kw_calli (wc := [(kReader, ad_r, _), (kTin, ad_t, _)]) (wr := [(kHillReader, ad_g, _), (kHill, ad_h, _)]) I hA [1, 2] [0, 3] rfl rfl (by decide) (by decide) (kn_runV (As := []) S0 hK hZ hA I ((ctX2_hasNextClause e_r_0 h).met _) (kn_cwV 0 hts q3_22 q3_23 q3_24 q1_3 q3_25 rfl rfl (by decide +kernel) ⟨(Nat.le_of_ble_eq_true rfl), (Nat.le_of_ble_eq_true rfl)⟩) [1, 2] rfl (by decide) 1 rfl rfl rfl rfl hl.1 rfl (Nat.le_of_ble_eq_true rfl) (kn_dec tX1_read 20 rfl) ⟨(Nat.le_of_ble_eq_true rfl), (Nat.le_of_ble_eq_true rfl)⟩) (fun r7 u8 H locs h I => ?_)
        obtain ⟨hz_r7, h⟩ := h
        have I : kn_I D tc (kn_A w0 s.heap.size) s.heap [(kHillReader, ad_g, _), (kReader, ad_r, _), (kTin, ad_t, _), (kHill, ad_h, _)] _ _ := I.sub [0, 2, 3, 1] (by decide) rfl
        refine lv_istore (lv' := [(4, .int _), (0, .ref (ad_g 0)), (1, .ref (ad_h 0)), (5, .int _)]) hx hb (kn_dec tX1_read 21 rfl) hl (by decide) rfl (fun ls hl => ?_)
        refine kw_iinc (lvf := fun y => [(5, .int y), (4, .int _), (0, .ref (ad_g 0)), (1, .ref (ad_h 0))]) (nv := (1)) hx hb (kn_dec tX1_read 22 rfl) hl (k := 3) rfl (by decide) (by decide) (fun _ => rfl) (fun x9 ex9 ls hl => ?_)
        have h := h x9 ex9
        refine lv_goto (tgt := 15) hx hb (kn_dec tX1_read 23 rfl) (by decide) ?_
        exact ih _ _ _ _ _ _ _ hz_r7 I (lv_sub hl [2, 3, 1, 0] rfl) h
def PX1_read  (v_g : OV) (v_r : OV) (v_t : OV) (v_h : OV) (a3 : Int32) (post : Int32 → OV → OV → Prop) : Prop := (PX2_open v_r v_t a3 (fun v_r1 => (∃ n3 : Nat, PX1_read_L15 v_g v_t post n3 ((1 : Int32)) ((0 : Int32)) v_r1 v_h)))
set_option maxRecDepth 100000 in
set_option maxHeartbeats 1000000 in
theorem ctX1_read {l : Launch} {D : va_G} {tc : Nat → ClassId} {Z : (Nat → Nat) × (Nat → Nat)}  {ad_g : Nat → Nat} {ad_r : Nat → Nat} {ad_t : Nat → Nat} {ad_h : Nat → Nat} {v_g : OV} {v_r : OV} {v_t : OV} {v_h : OV} {a3 : Int32} (e_g_0 : ad_g (0 + 1) = ad_r 0)   {post : Int32 → OV → OV → Prop} (h : PX1_read  v_g v_r v_t v_h a3 post) : CTi l D tc Z yX1_read (Cond.code yX1_read cX1_read 6 (some .int) :: kn_all) rmX1_read 0 0 [.ref (ad_g 0), .ref (ad_h 0), .ref (ad_t (0 + 1)), .int a3] [(kHillReader, ad_g, v_g), (kReader, ad_r, v_r), (kTin, ad_t, v_t), (kHill, ad_h, v_h)] (fun (u : OV × OV) => [(kHillReader, ad_g, v_g), (kReader, (kn_up ad_r 0 (ad_t (0 + 1))), u.1), (kTin, ad_t, v_t), (kHill, ad_h, u.2)]) (fun (r : Int32) (u : OV × OV) => post r u.1 u.2) := by
  refine kn_ofi (cc := cX1_read) (nL := 6) (ret := (some .int)) (lv := [(0, .ref (ad_g 0)), (1, .ref (ad_h 0)), (2, .ref (ad_t (0 + 1))), (3, .int a3)]) (by decide) (Nat.le_of_ble_eq_true rfl) rfl (fun p e s m below meth c ls X I hl _ => ?_)
  obtain ⟨S0, hr, hlocks, hK, hZ, hA⟩ := id X
  obtain ⟨hx, hb, hml, hown, hts⟩ := id S0
  unfold PX1_read at h
  refine lv_aload_n hx hb (kn_dec tX1_read 0 rfl) rfl (lv_at hl 0 rfl) ?_
  refine kw_getl hx hb hts inX1 hown hK I 0 rfl rfl 0 (by decide) rfl (hts _ q1_56) (kn_dec tX1_read 1 rfl) e_g_0 ?_
  refine lv_aload_n hx hb (kn_dec tX1_read 2 rfl) rfl (lv_at hl 2 rfl) ?_
  refine lv_iload_n hx hb (kn_dec tX1_read 3 rfl) rfl (lv_at hl 3 rfl) ?_
  have I : kn_I D tc (kn_A _ s.heap.size) s.heap ([(kReader, ad_r, _), (kTin, ad_t, _)] ++ (List.flatten [[(kHillReader, ad_g, _)], [(kHill, ad_h, _)]])) _ _ := I.perm (kn_segA (segs := [[(kHillReader, ad_g, _)], [(kReader, ad_r, _)], [(kTin, ad_t, _)], [(kHill, ad_h, _)]]) (sC := [[(kReader, ad_r, _)], [(kTin, ad_t, _)]]) (sR := [[(kHillReader, ad_g, _)], [(kHill, ad_h, _)]]) [1, 2, 0, 3] rfl rfl)
  refine kw_callv (wc := [(kReader, ad_r, _), (kTin, ad_t, _)]) (wr := (List.flatten [[(kHillReader, ad_g, _)], [(kHill, ad_h, _)]])) I hA (kn_pl1 _ _) (kn_pl2 _ _) (kn_pl1_ok _ _) (kn_pl2_ok _ _) (kn_pl2_nd _ _) (kn_pl_dis _ _) (kn_runV (As := [.ref (ad_t (0 + 1)), .int _]) S0 hK hZ hA I ((ctX2_open h).met _) (kn_cwV 2 hts q2_158 q2_159 q2_160 q1_3 q2_161 rfl rfl (by decide +kernel) ⟨(Nat.le_of_ble_eq_true rfl), (Nat.le_of_ble_eq_true rfl)⟩) (kn_pl1 _ _) (kn_pl1_ok _ _) (kn_pl1_nd _ _) 0 rfl rfl rfl rfl hl.1 rfl (Nat.le_of_ble_eq_true rfl) (kn_dec tX1_read 4 rfl) ⟨(Nat.le_of_ble_eq_true rfl), (Nat.le_of_ble_eq_true rfl)⟩) (fun u2 H locs h I => ?_)
  have I : kn_I D tc (kn_A _ s.heap.size) s.heap (List.flatten [[(kHillReader, ad_g, _)], [(kReader, (kn_up ad_r 0 (ad_t (0 + 1))), _)], [(kTin, ad_t, _)], [(kHill, ad_h, _)]]) _ _ := I.perm (kn_segB (sC := [[(kHillReader, ad_g, _)], [(kHill, ad_h, _)]]) (sR := [[(kReader, (kn_up ad_r 0 (ad_t (0 + 1))), _)], [(kTin, ad_t, _)]]) (segs := [[(kHillReader, ad_g, _)], [(kReader, (kn_up ad_r 0 (ad_t (0 + 1))), _)], [(kTin, ad_t, _)], [(kHill, ad_h, _)]]) [0, 2, 3, 1] rfl rfl)
  have I : kn_I D tc (kn_A _ s.heap.size) s.heap [(kHillReader, ad_g, _), (kReader, (kn_up ad_r 0 (ad_t (0 + 1))), _), (kTin, ad_t, _), (kHill, ad_h, _)] _ _ := I
  refine lv_iconst (v := (1)) hx hb (kn_dec tX1_read 5 rfl) (by decide) ?_
  refine lv_istore (lv' := [(4, .int _), (0, .ref (ad_g 0)), (1, .ref (ad_h 0)), (2, .ref (ad_t (0 + 1))), (3, .int _)]) hx hb (kn_dec tX1_read 6 rfl) hl (by decide) rfl (fun ls hl => ?_)
  refine lv_iconst (v := (0)) hx hb (kn_dec tX1_read 7 rfl) (by decide) ?_
  refine lv_istore (lv' := [(5, .int _), (4, .int _), (0, .ref (ad_g 0)), (1, .ref (ad_h 0)), (2, .ref (ad_t (0 + 1))), (3, .int _)]) hx hb (kn_dec tX1_read 8 rfl) hl (by decide) rfl (fun ls hl => ?_)
  obtain ⟨n3, h⟩ := h
  exact wX1_read_L15 X (e_g_0.trans kn_up_0.symm) kn_up_s n3 _ _ _ _ _ _ _ (Or.inr rfl) I (lv_sub hl [2, 3, 1, 0] rfl) h

/-! X5_begin -/
abbrev rmX5_begin : Room := { frames := 2, cells := 0, slots := 0, locals := 86 }
def PX5_begin  (v_c : OV) (v_s : OV) (v_h : OV) (post : OV → OV → Prop) : Prop := (PX6_begin v_s v_h (fun v_s1 => (∀ v_c3 : OV, v_c3 = si v_c 6 ((0 : Int32)) → (∀ v_c4 : OV, v_c4 = si v_c3 7 ((0 : Int32)) → post v_c4 v_s1))))
set_option maxRecDepth 100000 in
set_option maxHeartbeats 1000000 in
theorem ctX5_begin {l : Launch} {D : va_G} {tc : Nat → ClassId} {Z : (Nat → Nat) × (Nat → Nat)}  {ad_c : Nat → Nat} {ad_s : Nat → Nat} {ad_h : Nat → Nat} {v_c : OV} {v_s : OV} {v_h : OV} (e_c_3 : ad_c (3 + 1) = ad_s 0)   {post : OV → OV → Prop} (h : PX5_begin  v_c v_s v_h post) : CTv l D tc Z yX5_begin (Cond.code yX5_begin cX5_begin 2 none :: kn_all) rmX5_begin 0 0 [.ref (ad_c 0), .ref (ad_h 0)] [(kScene, ad_c, v_c), (kState, ad_s, v_s), (kHill, ad_h, v_h)] (fun (u : OV × OV) => [(kScene, (kn_up ad_c 0 (ad_h 0)), u.1), (kState, ad_s, u.2), (kHill, ad_h, v_h)]) (fun (u : OV × OV) => post u.1 u.2) := by
  refine kn_ofv (cc := cX5_begin) (nL := 2) (ret := none) (lv := [(0, .ref (ad_c 0)), (1, .ref (ad_h 0))]) (by decide) (Nat.le_of_ble_eq_true rfl) rfl (fun p e s m below meth c ls X I hl _ => ?_)
  obtain ⟨S0, hr, hlocks, hK, hZ, hA⟩ := id X
  obtain ⟨hx, hb, hml, hown, hts⟩ := id S0
  unfold PX5_begin at h
  refine lv_aload_n hx hb (kn_dec tX5_begin 0 rfl) rfl (lv_at hl 0 rfl) ?_
  refine lv_aload_n hx hb (kn_dec tX5_begin 1 rfl) rfl (lv_at hl 1 rfl) ?_
  refine kw_putl hx hb hts inX5 tyX5 tyX5_ok nmX5 hown hK I 0 rfl rfl 0 (by decide) rfl nkScene_0 (by decide) (hts _ q2_27) rfl rfl rfl (kn_dec tX5_begin 2 rfl) (fun H locs I => ?_)
  have I : kn_I D tc (kn_A _ s.heap.size) s.heap [(kScene, (kn_up ad_c 0 (ad_h 0)), _), (kState, ad_s, _), (kHill, ad_h, _)] _ _ := I
  refine lv_aload_n hx hb (kn_dec tX5_begin 3 rfl) rfl (lv_at hl 0 rfl) ?_
  refine kw_getl (ad := (kn_up ad_c 0 (ad_h 0))) hx hb hts inX5 hown hK I 0 rfl rfl 3 (by decide) rfl (hts _ q2_33) (kn_dec tX5_begin 4 rfl) e_c_3 ?_
  refine lv_aload_n hx hb (kn_dec tX5_begin 5 rfl) rfl (lv_at hl 1 rfl) ?_
  refine kw_callv (wc := [(kState, ad_s, _), (kHill, ad_h, _)]) (wr := [(kScene, (kn_up ad_c 0 (ad_h 0)), _)]) I hA [1, 2] [0] rfl rfl (by decide) (by decide) (kn_runV (As := [.ref (ad_h 0)]) S0 hK hZ hA I ((ctX6_begin h).met _) (kn_cwV 1 hts q3_35 q3_36 q3_37 q1_8 q3_38 rfl rfl (by decide +kernel) ⟨(Nat.le_of_ble_eq_true rfl), (Nat.le_of_ble_eq_true rfl)⟩) [1, 2] rfl (by decide) 1 rfl rfl rfl rfl hl.1 rfl (Nat.le_of_ble_eq_true rfl) (kn_dec tX5_begin 6 rfl) ⟨(Nat.le_of_ble_eq_true rfl), (Nat.le_of_ble_eq_true rfl)⟩) (fun u2 H locs h I => ?_)
  have I : kn_I D tc (kn_A _ s.heap.size) s.heap [(kScene, (kn_up ad_c 0 (ad_h 0)), _), (kState, ad_s, _), (kHill, ad_h, _)] _ _ := I
  refine lv_aload_n hx hb (kn_dec tX5_begin 7 rfl) rfl (lv_at hl 0 rfl) ?_
  refine lv_iconst (v := (0)) hx hb (kn_dec tX5_begin 8 rfl) (by decide) ?_
  refine kw_puti (ad := (kn_up ad_c 0 (ad_h 0))) hx hb hts inX5 tyX5 tyX5_ok nmX5 hown hK I 0 rfl rfl 6 (by decide) rfl (hts _ q2_37) rfl rfl rfl (kn_dec tX5_begin 9 rfl) (fun v_c3 ev_c3 H locs I => ?_)
  have h := h v_c3 ev_c3
  have I : kn_I D tc (kn_A _ s.heap.size) s.heap [(kScene, (kn_up ad_c 0 (ad_h 0)), _), (kState, ad_s, _), (kHill, ad_h, _)] _ _ := I
  refine lv_aload_n hx hb (kn_dec tX5_begin 10 rfl) rfl (lv_at hl 0 rfl) ?_
  refine lv_iconst (v := (0)) hx hb (kn_dec tX5_begin 11 rfl) (by decide) ?_
  refine kw_puti (ad := (kn_up ad_c 0 (ad_h 0))) hx hb hts inX5 tyX5 tyX5_ok nmX5 hown hK I 0 rfl rfl 7 (by decide) rfl (hts _ q2_39) rfl rfl rfl (kn_dec tX5_begin 12 rfl) (fun v_c4 ev_c4 H locs I => ?_)
  have h := h v_c4 ev_c4
  have I : kn_I D tc (kn_A _ s.heap.size) s.heap [(kScene, (kn_up ad_c 0 (ad_h 0)), _), (kState, ad_s, _), (kHill, ad_h, _)] _ _ := I
  exact kw_vret hx hb hr hlocks I (v_c4, u2) rfl h (kn_dec tX5_begin 13 rfl)

/-! X5_remember -/
abbrev rmX5_remember : Room := { frames := 2, cells := 0, slots := 0, locals := 85 }
def PX5_remember  (v_c : OV) (v_s : OV) (v_pp : (Nat → OV)) (post : OV → (Nat → OV) → Prop) : Prop := (vp_in (v_c.1 5) 20 ∧ ((v_c.1 5).toNatClampNeg < 20 ∧ (PX6_copy (v_pp ((v_c.1 5).toNatClampNeg)) v_s (fun v_pp3 => (∀ x5 : Int32, x5 = (((v_c.1 5) + ((1 : Int32))) - ((v_c.1 5) + ((1 : Int32))) / ((20 : Int32)) * ((20 : Int32))) → (∀ v_c6 : OV, v_c6 = si v_c 5 x5 → (∀ x7 : Int32, x7 = (if ((v_c6.1 6) + ((1 : Int32))) < ((20 : Int32)) then ((v_c6.1 6) + ((1 : Int32))) else ((20 : Int32))) → (∀ v_c8 : OV, v_c8 = si v_c6 6 x7 → post v_c8 (va_up v_pp ((v_c.1 5).toNatClampNeg) v_pp3)))))))))
set_option maxRecDepth 100000 in
set_option maxHeartbeats 1000000 in
theorem ctX5_remember {l : Launch} {D : va_G} {tc : Nat → ClassId} {Z : (Nat → Nat) × (Nat → Nat)}  {ad_c : Nat → Nat} {ad_s : Nat → Nat} {ad_pp : Nat → Nat → Nat} {v_c : OV} {v_s : OV} {v_pp : (Nat → OV)} (e_c_3 : ad_c (3 + 1) = ad_s 0) (p_c_4 : ∀ i, i < 20 → kn_q ad_c 4 i = some (ad_pp i 0))   {post : OV → (Nat → OV) → Prop} (h : PX5_remember  v_c v_s v_pp post) : CTv l D tc Z yX5_remember (Cond.code yX5_remember cX5_remember 1 none :: kn_all) rmX5_remember 0 0 [.ref (ad_c 0)] (List.flatten [[(kScene, ad_c, v_c)], [(kState, ad_s, v_s)], kn_pool kState 20 ad_pp v_pp]) (fun (u : OV × (Nat → OV)) => (List.flatten [[(kScene, ad_c, u.1)], [(kState, ad_s, v_s)], kn_pool kState 20 ad_pp u.2])) (fun (u : OV × (Nat → OV)) => post u.1 u.2) := by
  refine kn_ofv (cc := cX5_remember) (nL := 1) (ret := none) (lv := [(0, .ref (ad_c 0))]) (by decide) (Nat.le_of_ble_eq_true rfl) rfl (fun p e s m below meth c ls X I hl _ => ?_)
  obtain ⟨S0, hr, hlocks, hK, hZ, hA⟩ := id X
  obtain ⟨hx, hb, hml, hown, hts⟩ := id S0
  unfold PX5_remember at h
  refine lv_aload_n hx hb (kn_dec tX5_remember 0 rfl) rfl (lv_at hl 0 rfl) ?_
  refine kw_getl hx hb hts inX5 hown hK I 0 rfl rfl 4 (by decide) rfl (hts _ q2_35) (kn_dec tX5_remember 1 rfl) rfl ?_
  refine lv_aload_n hx hb (kn_dec tX5_remember 2 rfl) rfl (lv_at hl 0 rfl) ?_
  refine kw_geti hx hb hts inX5 hown hK I 0 rfl rfl 5 (by decide) rfl (hts _ q2_36) (kn_dec tX5_remember 3 rfl) ?_
  obtain ⟨hs1, h⟩ := h
  obtain ⟨hp2, h⟩ := h
  refine kw_qald hx hb hK I 0 rfl 4 0 20 (List.mem_of_getElem? (i := 0) rfl) rfl hs1 (kn_dec tX5_remember 4 rfl) (p_c_4 _ hp2) ?_
  refine lv_aload_n hx hb (kn_dec tX5_remember 5 rfl) rfl (lv_at hl 0 rfl) ?_
  refine kw_getl hx hb hts inX5 hown hK I 0 rfl rfl 3 (by decide) rfl (hts _ q2_33) (kn_dec tX5_remember 6 rfl) e_c_3 ?_
  have I : kn_I D tc (kn_A _ s.heap.size) s.heap (List.flatten [[(kState, ad_pp ((v_c.1 5).toNatClampNeg), _)], kn_rest kState 20 ad_pp _ ((v_c.1 5).toNatClampNeg), [(kScene, ad_c, _)], [(kState, ad_s, _)]]) _ _ := I.perm ((kn_seg (segs := [[(kScene, ad_c, _)], [(kState, ad_s, _)], kn_pool kState 20 ad_pp _]) (segs' := [kn_pool kState 20 ad_pp _, [(kScene, ad_c, _)], [(kState, ad_s, _)]]) [2, 0, 1] rfl rfl).trans (kn_focus hp2))
  have I : kn_I D tc (kn_A _ s.heap.size) s.heap ([(kState, ad_pp ((v_c.1 5).toNatClampNeg), _), (kState, ad_s, _)] ++ (List.flatten [kn_rest kState 20 ad_pp _ ((v_c.1 5).toNatClampNeg), [(kScene, ad_c, _)]])) _ _ := I.perm (kn_segA (segs := [[(kState, ad_pp ((v_c.1 5).toNatClampNeg), _)], kn_rest kState 20 ad_pp _ ((v_c.1 5).toNatClampNeg), [(kScene, ad_c, _)], [(kState, ad_s, _)]]) (sC := [[(kState, ad_pp ((v_c.1 5).toNatClampNeg), _)], [(kState, ad_s, _)]]) (sR := [kn_rest kState 20 ad_pp _ ((v_c.1 5).toNatClampNeg), [(kScene, ad_c, _)]]) [0, 3, 1, 2] rfl rfl)
  refine kw_callv (wc := [(kState, ad_pp ((v_c.1 5).toNatClampNeg), _), (kState, ad_s, _)]) (wr := (List.flatten [kn_rest kState 20 ad_pp _ ((v_c.1 5).toNatClampNeg), [(kScene, ad_c, _)]])) I hA (kn_pl1 _ _) (kn_pl2 _ _) (kn_pl1_ok _ _) (kn_pl2_ok _ _) (kn_pl2_nd _ _) (kn_pl_dis _ _) (kn_runV (As := [.ref (ad_s 0)]) S0 hK hZ hA I ((ctX6_copy h).met _) (kn_cwV 1 hts q3_170 q3_171 q3_172 q1_8 q3_173 rfl rfl (by decide +kernel) ⟨(Nat.le_of_ble_eq_true rfl), (Nat.le_of_ble_eq_true rfl)⟩) (kn_pl1 _ _) (kn_pl1_ok _ _) (kn_pl1_nd _ _) 0 rfl rfl rfl rfl hl.1 rfl (Nat.le_of_ble_eq_true rfl) (kn_dec tX5_remember 7 rfl) ⟨(Nat.le_of_ble_eq_true rfl), (Nat.le_of_ble_eq_true rfl)⟩) (fun u4 H locs h I => ?_)
  have I : kn_I D tc (kn_A _ s.heap.size) s.heap (List.flatten [[(kScene, ad_c, _)], [(kState, ad_s, _)], kn_pool kState 20 ad_pp _]) _ _ := I.perm ((kn_segB (sC := [kn_rest kState 20 ad_pp _ ((v_c.1 5).toNatClampNeg), [(kScene, ad_c, _)]]) (sR := [[(kState, ad_pp ((v_c.1 5).toNatClampNeg), _)], [(kState, ad_s, _)]]) (segs := [[(kState, ad_pp ((v_c.1 5).toNatClampNeg), _)], kn_rest kState 20 ad_pp _ ((v_c.1 5).toNatClampNeg), [(kScene, ad_c, _)], [(kState, ad_s, _)]]) [2, 0, 1, 3] rfl rfl).trans ((kn_unfocus hp2).trans (kn_seg (segs := [kn_pool kState 20 ad_pp _, [(kScene, ad_c, _)], [(kState, ad_s, _)]]) (segs' := [[(kScene, ad_c, _)], [(kState, ad_s, _)], kn_pool kState 20 ad_pp _]) [1, 2, 0] rfl rfl)))
  refine lv_aload_n hx hb (kn_dec tX5_remember 8 rfl) rfl (lv_at hl 0 rfl) ?_
  refine lv_aload_n hx hb (kn_dec tX5_remember 9 rfl) rfl (lv_at hl 0 rfl) ?_
  refine kw_geti hx hb hts inX5 hown hK I 0 rfl rfl 5 (by decide) rfl (hts _ q2_36) (kn_dec tX5_remember 10 rfl) ?_
  refine lv_iconst (v := (1)) hx hb (kn_dec tX5_remember 11 rfl) (by decide) ?_
  refine lv_iadd hx hb (kn_dec tX5_remember 12 rfl) ?_
  refine lv_bipush (v := (20)) hx hb (kn_dec tX5_remember 13 rfl) (by decide) ?_
  refine lv_irem hx hb (kn_dec tX5_remember 14 rfl) (by decide) ?_
  refine lv_topi (fun x5 ex5 => ?_)
  have h := h x5 ex5
  refine kw_puti hx hb hts inX5 tyX5 tyX5_ok nmX5 hown hK I 0 rfl rfl 5 (by decide) rfl (hts _ q2_36) rfl rfl rfl (kn_dec tX5_remember 15 rfl) (fun v_c6 ev_c6 H locs I => ?_)
  have h := h v_c6 ev_c6
  have I : kn_I D tc (kn_A _ s.heap.size) s.heap (List.flatten [[(kScene, ad_c, _)], [(kState, ad_s, _)], kn_pool kState 20 ad_pp _]) _ _ := I
  refine lv_aload_n hx hb (kn_dec tX5_remember 16 rfl) rfl (lv_at hl 0 rfl) ?_
  refine lv_bipush (v := (20)) hx hb (kn_dec tX5_remember 17 rfl) (by decide) ?_
  refine lv_aload_n hx hb (kn_dec tX5_remember 18 rfl) rfl (lv_at hl 0 rfl) ?_
  refine kw_geti hx hb hts inX5 hown hK I 0 rfl rfl 6 (by decide) rfl (hts _ q2_37) (kn_dec tX5_remember 19 rfl) ?_
  refine lv_iconst (v := (1)) hx hb (kn_dec tX5_remember 20 rfl) (by decide) ?_
  refine lv_iadd hx hb (kn_dec tX5_remember 21 rfl) ?_
  refine va_mmin hx hb (hml.trans hl.1.symm) hown (hts _ q3_174) (hts _ q2_163) (hts _ q1_11) (hts _ q2_164) (Nat.le_of_ble_eq_true rfl) (Nat.le_of_ble_eq_true rfl) (Nat.le_of_ble_eq_true rfl) (Nat.le_of_ble_eq_true rfl) (kn_dec tX5_remember 22 rfl) ?_
  refine lv_topi (fun x7 ex7 => ?_)
  have h := h x7 ex7
  refine kw_puti hx hb hts inX5 tyX5 tyX5_ok nmX5 hown hK I 0 rfl rfl 6 (by decide) rfl (hts _ q2_37) rfl rfl rfl (kn_dec tX5_remember 23 rfl) (fun v_c8 ev_c8 H locs I => ?_)
  have h := h v_c8 ev_c8
  have I : kn_I D tc (kn_A _ s.heap.size) s.heap (List.flatten [[(kScene, ad_c, _)], [(kState, ad_s, _)], kn_pool kState 20 ad_pp _]) _ _ := I
  exact kw_vret hx hb hr hlocks I (v_c8, (va_up v_pp ((v_c.1 5).toNatClampNeg) u4)) rfl h (kn_dec tX5_remember 24 rfl)

end
