section
variable {p : Program} {l : Launch} {e : Env} {s : State} {m : MethodId} {args : Array Value} {below : List Frame} {meth : Method} {c : Code} {D : va_G} {tc : Nat → ClassId} {Z : (Nat → Nat) × (Nat → Nat)} {w0 : List CH}

/-! X8_order -/
abbrev rmX8_order : Room := { frames := 4, cells := 0, slots := 0, locals := 136 }
def PX8_order  (v_t : OV) (v_c : OV) (v_h : OV) (v_s : OV) (a1 : Int32) (a2 : Int32) (post : Int32 → OV → Prop) : Prop := (PX8_hasSeeker v_t v_c v_h a1 (fun r1 => ((r1 = ((0 : Int32)) → post ((-1 : Int32)) v_t) ∧ (¬ r1 = ((0 : Int32)) → ((((0 : Int32)) ≤ a2 → (PX8_putInOrder v_t v_c v_h v_s a1 (fun r6 v_t5 => ((r6 ≤ a2 → post ((-2 : Int32)) v_t5) ∧ (¬ r6 ≤ a2 → (vp_in a2 10 ∧ post (v_t5.2.1 11 a2.toNatClampNeg) v_t5)))))) ∧ (¬ ((0 : Int32)) ≤ a2 → post ((-1 : Int32)) v_t))))))
set_option maxRecDepth 100000 in
set_option maxHeartbeats 1000000 in
theorem ctX8_order {l : Launch} {D : va_G} {tc : Nat → ClassId} {Z : (Nat → Nat) × (Nat → Nat)}  {ad_t : Nat → Nat} {ad_c : Nat → Nat} {ad_h : Nat → Nat} {ad_s : Nat → Nat} {v_t : OV} {v_c : OV} {v_h : OV} {v_s : OV} {a1 : Int32} {a2 : Int32} (e_t_6 : ad_t (6 + 1) = ad_c 0) (e_c_0 : ad_c (0 + 1) = ad_h 0) (e_c_3 : ad_c (3 + 1) = ad_s 0)   {post : Int32 → OV → Prop} (h : PX8_order  v_t v_c v_h v_s a1 a2 post) : CTi l D tc Z yX8_order (Cond.code yX8_order cX8_order 4 (some .int) :: kn_all) rmX8_order 0 0 [.ref (ad_t 0), .int a1, .int a2] [(kTin, ad_t, v_t), (kScene, ad_c, v_c), (kHill, ad_h, v_h), (kState, ad_s, v_s)] (fun (u : OV) => [(kTin, ad_t, u), (kScene, ad_c, v_c), (kHill, ad_h, v_h), (kState, ad_s, v_s)]) (fun (r : Int32) (u : OV) => post r u) := by
  refine kn_ofi (cc := cX8_order) (nL := 4) (ret := (some .int)) (lv := [(0, .ref (ad_t 0)), (1, .int a1), (2, .int a2)]) (by decide) (Nat.le_of_ble_eq_true rfl) rfl (fun p e s m below meth c ls X I hl _ => ?_)
  obtain ⟨S0, hr, hlocks, hK, hZ, hA⟩ := id X
  obtain ⟨hx, hb, hml, hown, hts⟩ := id S0
  unfold PX8_order at h
  refine lv_aload_n hx hb (kn_dec tX8_order 0 rfl) rfl (lv_at hl 0 rfl) ?_
  refine lv_iload_n hx hb (kn_dec tX8_order 1 rfl) rfl (lv_at hl 1 rfl) ?_
  refine kw_calli (wc := [(kTin, ad_t, _), (kScene, ad_c, _), (kHill, ad_h, _)]) (wr := [(kState, ad_s, _)]) I hA [0, 1, 2] [3] rfl rfl (by decide) (by decide) (kn_runV (As := [.int _]) S0 hK hZ hA I ((ctX8_hasSeeker e_t_6 e_c_0 h).met _) (kn_cwV 1 hts q3_154 q3_156 q0_13 q1_1 q3_157 rfl rfl (by decide +kernel) ⟨(Nat.le_of_ble_eq_true rfl), (Nat.le_of_ble_eq_true rfl)⟩) [0, 1, 2] rfl (by decide) 0 rfl rfl rfl rfl hl.1 rfl (Nat.le_of_ble_eq_true rfl) (kn_dec tX8_order 2 rfl) ⟨(Nat.le_of_ble_eq_true rfl), (Nat.le_of_ble_eq_true rfl)⟩) (fun r1 u2 H locs h I => ?_)
  obtain ⟨hz_r1, h⟩ := h
  have I : kn_I D tc (kn_A _ s.heap.size) s.heap [(kTin, ad_t, _), (kScene, ad_c, _), (kHill, ad_h, _), (kState, ad_s, _)] _ _ := I.sub [1, 2, 3, 0] (by decide) rfl
  refine lv_if_eq (tgt := 12) hx hb (kn_dec tX8_order 3 rfl) (by decide) (fun c3 => ?_) (fun c3 => ?_)
  · have h := h.1 c3
    refine lv_iconst (v := (-1)) hx hb (kn_dec tX8_order 6 rfl) (by decide) ?_
    exact kw_iret hx hb hr hlocks I _ rfl h (kn_dec tX8_order 7 rfl)
  · have h := h.2 c3
    refine lv_iload_n hx hb (kn_dec tX8_order 4 rfl) rfl (lv_at hl 2 rfl) ?_
    refine lv_if_ge (tgt := 14) hx hb (kn_dec tX8_order 5 rfl) (by decide) (fun c4 => ?_) (fun c4 => ?_)
    · have h := h.1 c4
      refine lv_aload_n hx hb (kn_dec tX8_order 8 rfl) rfl (lv_at hl 0 rfl) ?_
      refine lv_iload_n hx hb (kn_dec tX8_order 9 rfl) rfl (lv_at hl 1 rfl) ?_
      refine kw_calli (wc := [(kTin, ad_t, _), (kScene, ad_c, _), (kHill, ad_h, _), (kState, ad_s, _)]) (wr := []) I hA [0, 1, 2, 3] [] rfl rfl (by decide) (by decide) (kn_runV (As := [.int _]) S0 hK hZ hA I ((ctX8_putInOrder e_t_6 e_c_0 e_c_3 h).met _) (kn_cwV 1 hts q4_98 q4_100 q0_23 q1_1 q4_101 rfl rfl (by decide +kernel) ⟨(Nat.le_of_ble_eq_true rfl), (Nat.le_of_ble_eq_true rfl)⟩) [0, 1, 2, 3] rfl (by decide) 0 rfl rfl rfl rfl hl.1 rfl (Nat.le_of_ble_eq_true rfl) (kn_dec tX8_order 10 rfl) ⟨(Nat.le_of_ble_eq_true rfl), (Nat.le_of_ble_eq_true rfl)⟩) (fun r6 u7 H locs h I => ?_)
      have I : kn_I D tc (kn_A _ s.heap.size) s.heap [(kTin, ad_t, _), (kScene, ad_c, _), (kHill, ad_h, _), (kState, ad_s, _)] _ _ := I
      refine lv_istore_n (lv' := [(3, .int _), (0, .ref (ad_t 0)), (1, .int _), (2, .int _)]) hx hb (kn_dec tX8_order 11 rfl) rfl hl (by decide) rfl (fun ls hl => ?_)
      refine lv_iload_n hx hb (kn_dec tX8_order 12 rfl) rfl (lv_at hl 3 rfl) ?_
      refine lv_iload_n hx hb (kn_dec tX8_order 13 rfl) rfl (lv_at hl 0 rfl) ?_
      refine lv_icmp_ge (tgt := 34) hx hb (kn_dec tX8_order 14 rfl) (by decide) (fun c8 => ?_) (fun c8 => ?_)
      · have h := h.1 c8
        refine lv_bipush (v := (-2)) hx hb (kn_dec tX8_order 20 rfl) (by decide) ?_
        exact kw_iret hx hb hr hlocks I _ rfl h (kn_dec tX8_order 21 rfl)
      · have h := h.2 c8
        refine lv_aload_n hx hb (kn_dec tX8_order 15 rfl) rfl (lv_at hl 1 rfl) ?_
        refine kw_getl hx hb hts inX8 hown hK I 0 rfl rfl 11 (by decide) rfl (hts _ q2_110) (kn_dec tX8_order 16 rfl) rfl ?_
        refine lv_iload_n hx hb (kn_dec tX8_order 17 rfl) rfl (lv_at hl 3 rfl) ?_
        obtain ⟨hs9, h⟩ := h
        refine kw_iald hx hb hK I 0 rfl 11 10 (List.mem_of_getElem? (i := 4) rfl) hs9 (kn_dec tX8_order 18 rfl) ?_
        refine lv_goto (tgt := 36) hx hb (kn_dec tX8_order 19 rfl) (by decide) ?_
        exact kw_iret hx hb hr hlocks I _ rfl h (kn_dec tX8_order 21 rfl)
    · have h := h.2 c4
      refine lv_iconst (v := (-1)) hx hb (kn_dec tX8_order 6 rfl) (by decide) ?_
      exact kw_iret hx hb hr hlocks I _ rfl h (kn_dec tX8_order 7 rfl)

/-! X8_mean -/
abbrev rmX8_mean : Room := { frames := 4, cells := 0, slots := 0, locals := 136 }
def PX8_mean_L35 (v_c : OV) (v_h : OV) (v_s : OV)  (post : Int32 → OV → Prop) : Nat → Int32 → Int32 → Int32 → Int32 → Int32 → Int32 → Int32 → OV → Prop
  | 0, _, _, _, _, _, _, _, _ => False
  | n + 1, y1, y2, y3, y4, y5, y6, y7, v_t => ((y3 ≤ y7 → (PX8_ofLowestTerms y5 y6 y2 (fun r2 => post r2 v_t))) ∧ (¬ y3 ≤ y7 → (vp_in y7 10 ∧ (∀ x5 : Int32, x5 = (v_t.2.1 11 y7.toNatClampNeg) → (PX0_minutes v_h v_s y1 x5 (fun r6 => (∀ x8 : Int32, x8 = (y4 + r6) → (vp_in x5 10 ∧ (∀ x10 : Int32, x10 = (y5 + ((v_h.2.1 7 x5.toNatClampNeg) * x8)) → (vp_in x5 10 ∧ (∀ x12 : Int32, x12 = (y6 + (v_h.2.1 7 x5.toNatClampNeg)) → (∀ x13 : Int32, x13 = y7 + (1 : Int32) → PX8_mean_L35 v_c v_h v_s post n y1 y2 y3 x8 x10 x12 x13 v_t))))))))))))
set_option maxRecDepth 100000 in
set_option maxHeartbeats 1000000 in
theorem wX8_mean_L35 {v_c : OV} {v_h : OV} {v_s : OV}  {post : Int32 → OV → Prop} {ad_t : Nat → Nat} {ad_c : Nat → Nat} {ad_h : Nat → Nat} {ad_s : Nat → Nat} (X : kn_X p s m args meth c cX8_mean 9 (some .int) RX8 kn_all D tc Z (kn_A w0 s.heap.size)) (e_t_6 : ad_t (6 + 1) = ad_c 0) (e_c_0 : ad_c (0 + 1) = ad_h 0) (e_c_3 : ad_c (3 + 1) = ad_s 0)   : ∀ n : Nat, ∀ (H : Heap) (locs : List Loc) (ls : Array Slot) (y1 : Int32) (y2 : Int32) (y3 : Int32) (y4 : Int32) (y5 : Int32) (y6 : Int32) (y7 : Int32) (v_t : OV), kn_I D tc (kn_A w0 s.heap.size) s.heap [(kTin, ad_t, v_t), (kScene, ad_c, v_c), (kHill, ad_h, v_h), (kState, ad_s, v_s)] H locs → lv_has ls 9 [(0, .ref (ad_t 0)), (1, .int y1), (2, .int y2), (3, .int y3), (4, .int y4), (5, .int y5), (6, .int y6), (7, .int y7)] → PX8_mean_L35 v_c v_h v_s post n y1 y2 y3 y4 y5 y6 y7 v_t → W p l e rmX8_mean s m args below meth c H locs 0 0 (kn_Qi D tc w0 (fun (u : OV) => [(kTin, ad_t, u), (kScene, ad_c, v_c), (kHill, ad_h, v_h), (kState, ad_s, v_s)]) (fun (r : Int32) (u : OV) => post r u) below args s 0 0) (F0 m 35 ls []) := by
  obtain ⟨S0, hr, hlocks, hK, hZ, hA⟩ := id X
  obtain ⟨hx, hb, hml, hown, hts⟩ := id S0
  intro n
  induction n with
  | zero =>
    intro H locs ls y1 y2 y3 y4 y5 y6 y7 v_t I hl h
    unfold PX8_mean_L35 at h
    exact h.elim
  | succ n ih =>
    intro H locs ls y1 y2 y3 y4 y5 y6 y7 v_t I hl h
    unfold PX8_mean_L35 at h
    refine lv_iload hx hb (kn_dec tX8_mean 21 rfl) (lv_at hl 7 rfl) ?_
    refine lv_iload_n hx hb (kn_dec tX8_mean 22 rfl) rfl (lv_at hl 3 rfl) ?_
    refine lv_icmp_ge (tgt := 120) hx hb (kn_dec tX8_mean 23 rfl) (by decide) (fun c1 => ?_) (fun c1 => ?_)
    · have h := h.1 c1
      refine lv_iload hx hb (kn_dec tX8_mean 63 rfl) (lv_at hl 5 rfl) ?_
      refine lv_iload hx hb (kn_dec tX8_mean 64 rfl) (lv_at hl 6 rfl) ?_
      refine lv_iload_n hx hb (kn_dec tX8_mean 65 rfl) rfl (lv_at hl 2 rfl) ?_
      refine kw_calli (wc := []) (wr := [(kTin, ad_t, _), (kScene, ad_c, _), (kHill, ad_h, _), (kState, ad_s, _)]) I hA [] [0, 1, 2, 3] rfl rfl (by decide) (by decide) (kn_runS (As := [.int _, .int _, .int _]) S0 hK hZ hA I ((ctX8_ofLowestTerms h).met _) (kn_cwS 3 hts q4_111 q4_112 q1_1 q4_113 rfl rfl (by decide +kernel) ⟨(Nat.le_of_ble_eq_true rfl), (Nat.le_of_ble_eq_true rfl)⟩) [] rfl (by decide) rfl hl.1 rfl (Nat.le_of_ble_eq_true rfl) (kn_dec tX8_mean 66 rfl) ⟨(Nat.le_of_ble_eq_true rfl), (Nat.le_of_ble_eq_true rfl)⟩) (fun r2 u3 H locs h I => ?_)
      have I : kn_I D tc (kn_A w0 s.heap.size) s.heap [(kTin, ad_t, _), (kScene, ad_c, _), (kHill, ad_h, _), (kState, ad_s, _)] _ _ := I
      exact kw_iret hx hb hr hlocks I _ rfl h (kn_dec tX8_mean 67 rfl)
    · have h := h.2 c1
      refine lv_aload_n hx hb (kn_dec tX8_mean 24 rfl) rfl (lv_at hl 0 rfl) ?_
      refine kw_getl hx hb hts inX8 hown hK I 0 rfl rfl 11 (by decide) rfl (hts _ q2_110) (kn_dec tX8_mean 25 rfl) rfl ?_
      refine lv_iload hx hb (kn_dec tX8_mean 26 rfl) (lv_at hl 7 rfl) ?_
      obtain ⟨hs4, h⟩ := h
      refine kw_iald hx hb hK I 0 rfl 11 10 (List.mem_of_getElem? (i := 4) rfl) hs4 (kn_dec tX8_mean 27 rfl) ?_
      refine lv_topi (fun x5 ex5 => ?_)
      have h := h x5 ex5
      refine lv_istore (lv' := [(8, .int _), (0, .ref (ad_t 0)), (1, .int _), (2, .int _), (3, .int _), (4, .int _), (5, .int _), (6, .int _), (7, .int _)]) hx hb (kn_dec tX8_mean 28 rfl) hl (by decide) rfl (fun ls hl => ?_)
      refine lv_iload hx hb (kn_dec tX8_mean 29 rfl) (lv_at hl 5 rfl) ?_
      refine lv_aload_n hx hb (kn_dec tX8_mean 30 rfl) rfl (lv_at hl 1 rfl) ?_
      refine kw_getl hx hb hts inX8 hown hK I 0 rfl rfl 6 (by decide) rfl (hts _ q2_105) (kn_dec tX8_mean 31 rfl) e_t_6 ?_
      refine kw_getl hx hb hts inX5 hown hK I 1 rfl rfl 0 (by decide) rfl (hts _ q2_28) (kn_dec tX8_mean 32 rfl) e_c_0 ?_
      refine lv_aload_n hx hb (kn_dec tX8_mean 33 rfl) rfl (lv_at hl 1 rfl) ?_
      refine kw_getl hx hb hts inX8 hown hK I 0 rfl rfl 6 (by decide) rfl (hts _ q2_105) (kn_dec tX8_mean 34 rfl) e_t_6 ?_
      refine kw_getl hx hb hts inX5 hown hK I 1 rfl rfl 3 (by decide) rfl (hts _ q2_34) (kn_dec tX8_mean 35 rfl) e_c_3 ?_
      refine lv_iload_n hx hb (kn_dec tX8_mean 36 rfl) rfl (lv_at hl 2 rfl) ?_
      refine lv_iload hx hb (kn_dec tX8_mean 37 rfl) (lv_at hl 0 rfl) ?_
      refine kw_calli (wc := [(kHill, ad_h, _), (kState, ad_s, _)]) (wr := [(kTin, ad_t, _), (kScene, ad_c, _)]) I hA [2, 3] [0, 1] rfl rfl (by decide) (by decide) (kn_runV (As := [.ref (ad_s 0), .int _, .int _]) S0 hK hZ hA I ((ctX0_minutes h).met _) (kn_cwV 3 hts q4_106 q3_217 q3_218 q1_7 q3_219 rfl rfl (by decide +kernel) ⟨(Nat.le_of_ble_eq_true rfl), (Nat.le_of_ble_eq_true rfl)⟩) [2, 3] rfl (by decide) 2 rfl rfl rfl rfl hl.1 rfl (Nat.le_of_ble_eq_true rfl) (kn_dec tX8_mean 38 rfl) ⟨(Nat.le_of_ble_eq_true rfl), (Nat.le_of_ble_eq_true rfl)⟩) (fun r6 u7 H locs h I => ?_)
      have I : kn_I D tc (kn_A w0 s.heap.size) s.heap [(kTin, ad_t, _), (kScene, ad_c, _), (kHill, ad_h, _), (kState, ad_s, _)] _ _ := I
      refine lv_iadd hx hb (kn_dec tX8_mean 39 rfl) ?_
      refine lv_topi (fun x8 ex8 => ?_)
      have h := h x8 ex8
      refine lv_istore (lv' := [(4, .int _), (8, .int _), (0, .ref (ad_t 0)), (1, .int _), (2, .int _), (3, .int _), (5, .int _), (6, .int _), (7, .int _)]) hx hb (kn_dec tX8_mean 40 rfl) hl (by decide) rfl (fun ls hl => ?_)
      refine lv_iload hx hb (kn_dec tX8_mean 41 rfl) (lv_at hl 6 rfl) ?_
      refine lv_aload_n hx hb (kn_dec tX8_mean 42 rfl) rfl (lv_at hl 2 rfl) ?_
      refine kw_getl hx hb hts inX8 hown hK I 0 rfl rfl 6 (by decide) rfl (hts _ q2_105) (kn_dec tX8_mean 43 rfl) e_t_6 ?_
      refine kw_getl hx hb hts inX5 hown hK I 1 rfl rfl 0 (by decide) rfl (hts _ q2_28) (kn_dec tX8_mean 44 rfl) e_c_0 ?_
      refine kw_getl hx hb hts inX0 hown hK I 2 rfl rfl 7 (by decide) rfl (hts _ q1_144) (kn_dec tX8_mean 45 rfl) rfl ?_
      refine lv_iload hx hb (kn_dec tX8_mean 46 rfl) (lv_at hl 1 rfl) ?_
      obtain ⟨hs9, h⟩ := h
      refine kw_iald hx hb hK I 2 rfl 7 10 (List.mem_of_getElem? (i := 2) rfl) hs9 (kn_dec tX8_mean 47 rfl) ?_
      refine lv_iload hx hb (kn_dec tX8_mean 48 rfl) (lv_at hl 0 rfl) ?_
      refine lv_imul hx hb (kn_dec tX8_mean 49 rfl) ?_
      refine lv_iadd hx hb (kn_dec tX8_mean 50 rfl) ?_
      refine lv_topi (fun x10 ex10 => ?_)
      have h := h x10 ex10
      refine lv_istore (lv' := [(5, .int _), (4, .int _), (8, .int _), (0, .ref (ad_t 0)), (1, .int _), (2, .int _), (3, .int _), (6, .int _), (7, .int _)]) hx hb (kn_dec tX8_mean 51 rfl) hl (by decide) rfl (fun ls hl => ?_)
      refine lv_iload hx hb (kn_dec tX8_mean 52 rfl) (lv_at hl 7 rfl) ?_
      refine lv_aload_n hx hb (kn_dec tX8_mean 53 rfl) rfl (lv_at hl 3 rfl) ?_
      refine kw_getl hx hb hts inX8 hown hK I 0 rfl rfl 6 (by decide) rfl (hts _ q2_105) (kn_dec tX8_mean 54 rfl) e_t_6 ?_
      refine kw_getl hx hb hts inX5 hown hK I 1 rfl rfl 0 (by decide) rfl (hts _ q2_28) (kn_dec tX8_mean 55 rfl) e_c_0 ?_
      refine kw_getl hx hb hts inX0 hown hK I 2 rfl rfl 7 (by decide) rfl (hts _ q1_144) (kn_dec tX8_mean 56 rfl) rfl ?_
      refine lv_iload hx hb (kn_dec tX8_mean 57 rfl) (lv_at hl 2 rfl) ?_
      obtain ⟨hs11, h⟩ := h
      refine kw_iald hx hb hK I 2 rfl 7 10 (List.mem_of_getElem? (i := 2) rfl) hs11 (kn_dec tX8_mean 58 rfl) ?_
      refine lv_iadd hx hb (kn_dec tX8_mean 59 rfl) ?_
      refine lv_topi (fun x12 ex12 => ?_)
      have h := h x12 ex12
      refine lv_istore (lv' := [(6, .int _), (5, .int _), (4, .int _), (8, .int _), (0, .ref (ad_t 0)), (1, .int _), (2, .int _), (3, .int _), (7, .int _)]) hx hb (kn_dec tX8_mean 60 rfl) hl (by decide) rfl (fun ls hl => ?_)
      refine kw_iinc (lvf := fun y => [(7, .int y), (6, .int _), (5, .int _), (4, .int _), (8, .int _), (0, .ref (ad_t 0)), (1, .int _), (2, .int _), (3, .int _)]) (nv := (1)) hx hb (kn_dec tX8_mean 61 rfl) hl (k := 8) rfl (by decide) (by decide) (fun _ => rfl) (fun x13 ex13 ls hl => ?_)
      have h := h x13 ex13
      refine lv_goto (tgt := 35) hx hb (kn_dec tX8_mean 62 rfl) (by decide) ?_
      exact ih _ _ _ _ _ _ _ _ _ _ _  I (lv_sub hl [5, 6, 7, 8, 3, 2, 1, 0] rfl) h
def PX8_mean  (v_t : OV) (v_c : OV) (v_h : OV) (v_s : OV) (a1 : Int32) (a2 : Int32) (post : Int32 → OV → Prop) : Prop := (PX8_hasSeeker v_t v_c v_h a1 (fun r1 => ((r1 = ((0 : Int32)) → post ((-1 : Int32)) v_t) ∧ (¬ r1 = ((0 : Int32)) → (PX8_isPart a2 (fun r4 => ((¬ r4 = ((0 : Int32)) → (PX8_putInOrder v_t v_c v_h v_s a1 (fun r8 v_t7 => (∃ n10 : Nat, PX8_mean_L35 v_c v_h v_s post n10 a1 a2 r8 ((0 : Int32)) ((0 : Int32)) ((0 : Int32)) ((0 : Int32)) v_t7)))) ∧ (r4 = ((0 : Int32)) → post ((-1 : Int32)) v_t))))))))
set_option maxRecDepth 100000 in
set_option maxHeartbeats 1000000 in
theorem ctX8_mean {l : Launch} {D : va_G} {tc : Nat → ClassId} {Z : (Nat → Nat) × (Nat → Nat)}  {ad_t : Nat → Nat} {ad_c : Nat → Nat} {ad_h : Nat → Nat} {ad_s : Nat → Nat} {v_t : OV} {v_c : OV} {v_h : OV} {v_s : OV} {a1 : Int32} {a2 : Int32} (e_t_6 : ad_t (6 + 1) = ad_c 0) (e_c_0 : ad_c (0 + 1) = ad_h 0) (e_c_3 : ad_c (3 + 1) = ad_s 0)   {post : Int32 → OV → Prop} (h : PX8_mean  v_t v_c v_h v_s a1 a2 post) : CTi l D tc Z yX8_mean (Cond.code yX8_mean cX8_mean 9 (some .int) :: kn_all) rmX8_mean 0 0 [.ref (ad_t 0), .int a1, .int a2] [(kTin, ad_t, v_t), (kScene, ad_c, v_c), (kHill, ad_h, v_h), (kState, ad_s, v_s)] (fun (u : OV) => [(kTin, ad_t, u), (kScene, ad_c, v_c), (kHill, ad_h, v_h), (kState, ad_s, v_s)]) (fun (r : Int32) (u : OV) => post r u) := by
  refine kn_ofi (cc := cX8_mean) (nL := 9) (ret := (some .int)) (lv := [(0, .ref (ad_t 0)), (1, .int a1), (2, .int a2)]) (by decide) (Nat.le_of_ble_eq_true rfl) rfl (fun p e s m below meth c ls X I hl _ => ?_)
  obtain ⟨S0, hr, hlocks, hK, hZ, hA⟩ := id X
  obtain ⟨hx, hb, hml, hown, hts⟩ := id S0
  unfold PX8_mean at h
  refine lv_aload_n hx hb (kn_dec tX8_mean 0 rfl) rfl (lv_at hl 0 rfl) ?_
  refine lv_iload_n hx hb (kn_dec tX8_mean 1 rfl) rfl (lv_at hl 1 rfl) ?_
  refine kw_calli (wc := [(kTin, ad_t, _), (kScene, ad_c, _), (kHill, ad_h, _)]) (wr := [(kState, ad_s, _)]) I hA [0, 1, 2] [3] rfl rfl (by decide) (by decide) (kn_runV (As := [.int _]) S0 hK hZ hA I ((ctX8_hasSeeker e_t_6 e_c_0 h).met _) (kn_cwV 1 hts q3_154 q3_156 q0_13 q1_1 q3_157 rfl rfl (by decide +kernel) ⟨(Nat.le_of_ble_eq_true rfl), (Nat.le_of_ble_eq_true rfl)⟩) [0, 1, 2] rfl (by decide) 0 rfl rfl rfl rfl hl.1 rfl (Nat.le_of_ble_eq_true rfl) (kn_dec tX8_mean 2 rfl) ⟨(Nat.le_of_ble_eq_true rfl), (Nat.le_of_ble_eq_true rfl)⟩) (fun r1 u2 H locs h I => ?_)
  obtain ⟨hz_r1, h⟩ := h
  have I : kn_I D tc (kn_A _ s.heap.size) s.heap [(kTin, ad_t, _), (kScene, ad_c, _), (kHill, ad_h, _), (kState, ad_s, _)] _ _ := I.sub [1, 2, 3, 0] (by decide) rfl
  refine lv_if_eq (tgt := 15) hx hb (kn_dec tX8_mean 3 rfl) (by decide) (fun c3 => ?_) (fun c3 => ?_)
  · have h := h.1 c3
    refine lv_iconst (v := (-1)) hx hb (kn_dec tX8_mean 7 rfl) (by decide) ?_
    exact kw_iret hx hb hr hlocks I _ rfl h (kn_dec tX8_mean 8 rfl)
  · have h := h.2 c3
    refine lv_iload_n hx hb (kn_dec tX8_mean 4 rfl) rfl (lv_at hl 2 rfl) ?_
    refine kw_calli (wc := []) (wr := [(kTin, ad_t, _), (kScene, ad_c, _), (kHill, ad_h, _), (kState, ad_s, _)]) I hA [] [0, 1, 2, 3] rfl rfl (by decide) (by decide) (kn_runS (As := [.int _]) S0 hK hZ hA I ((ctX8_isPart h).met _) (kn_cwS 1 hts q4_62 q4_63 q1_1 q4_64 rfl rfl (by decide +kernel) ⟨(Nat.le_of_ble_eq_true rfl), (Nat.le_of_ble_eq_true rfl)⟩) [] rfl (by decide) rfl hl.1 rfl (Nat.le_of_ble_eq_true rfl) (kn_dec tX8_mean 5 rfl) ⟨(Nat.le_of_ble_eq_true rfl), (Nat.le_of_ble_eq_true rfl)⟩) (fun r4 u5 H locs h I => ?_)
    obtain ⟨hz_r4, h⟩ := h
    have I : kn_I D tc (kn_A _ s.heap.size) s.heap [(kTin, ad_t, _), (kScene, ad_c, _), (kHill, ad_h, _), (kState, ad_s, _)] _ _ := I
    refine lv_if_ne (tgt := 17) hx hb (kn_dec tX8_mean 6 rfl) (by decide) (fun c6 => ?_) (fun c6 => ?_)
    · have h := h.1 c6
      refine lv_aload_n hx hb (kn_dec tX8_mean 9 rfl) rfl (lv_at hl 0 rfl) ?_
      refine lv_iload_n hx hb (kn_dec tX8_mean 10 rfl) rfl (lv_at hl 1 rfl) ?_
      refine kw_calli (wc := [(kTin, ad_t, _), (kScene, ad_c, _), (kHill, ad_h, _), (kState, ad_s, _)]) (wr := []) I hA [0, 1, 2, 3] [] rfl rfl (by decide) (by decide) (kn_runV (As := [.int _]) S0 hK hZ hA I ((ctX8_putInOrder e_t_6 e_c_0 e_c_3 h).met _) (kn_cwV 1 hts q4_98 q4_100 q0_23 q1_1 q4_101 rfl rfl (by decide +kernel) ⟨(Nat.le_of_ble_eq_true rfl), (Nat.le_of_ble_eq_true rfl)⟩) [0, 1, 2, 3] rfl (by decide) 0 rfl rfl rfl rfl hl.1 rfl (Nat.le_of_ble_eq_true rfl) (kn_dec tX8_mean 11 rfl) ⟨(Nat.le_of_ble_eq_true rfl), (Nat.le_of_ble_eq_true rfl)⟩) (fun r8 u9 H locs h I => ?_)
      have I : kn_I D tc (kn_A _ s.heap.size) s.heap [(kTin, ad_t, _), (kScene, ad_c, _), (kHill, ad_h, _), (kState, ad_s, _)] _ _ := I
      refine lv_istore_n (lv' := [(3, .int _), (0, .ref (ad_t 0)), (1, .int _), (2, .int _)]) hx hb (kn_dec tX8_mean 12 rfl) rfl hl (by decide) rfl (fun ls hl => ?_)
      refine lv_iconst (v := (0)) hx hb (kn_dec tX8_mean 13 rfl) (by decide) ?_
      refine lv_istore (lv' := [(4, .int _), (3, .int _), (0, .ref (ad_t 0)), (1, .int _), (2, .int _)]) hx hb (kn_dec tX8_mean 14 rfl) hl (by decide) rfl (fun ls hl => ?_)
      refine lv_iconst (v := (0)) hx hb (kn_dec tX8_mean 15 rfl) (by decide) ?_
      refine lv_istore (lv' := [(5, .int _), (4, .int _), (3, .int _), (0, .ref (ad_t 0)), (1, .int _), (2, .int _)]) hx hb (kn_dec tX8_mean 16 rfl) hl (by decide) rfl (fun ls hl => ?_)
      refine lv_iconst (v := (0)) hx hb (kn_dec tX8_mean 17 rfl) (by decide) ?_
      refine lv_istore (lv' := [(6, .int _), (5, .int _), (4, .int _), (3, .int _), (0, .ref (ad_t 0)), (1, .int _), (2, .int _)]) hx hb (kn_dec tX8_mean 18 rfl) hl (by decide) rfl (fun ls hl => ?_)
      refine lv_iconst (v := (0)) hx hb (kn_dec tX8_mean 19 rfl) (by decide) ?_
      refine lv_istore (lv' := [(7, .int _), (6, .int _), (5, .int _), (4, .int _), (3, .int _), (0, .ref (ad_t 0)), (1, .int _), (2, .int _)]) hx hb (kn_dec tX8_mean 20 rfl) hl (by decide) rfl (fun ls hl => ?_)
      obtain ⟨n10, h⟩ := h
      exact wX8_mean_L35 X e_t_6 e_c_0 e_c_3 n10 _ _ _ _ _ _ _ _ _ _ _  I (lv_sub hl [5, 6, 7, 4, 3, 2, 1, 0] rfl) h
    · have h := h.2 c6
      refine lv_iconst (v := (-1)) hx hb (kn_dec tX8_mean 7 rfl) (by decide) ?_
      exact kw_iret hx hb hr hlocks I _ rfl h (kn_dec tX8_mean 8 rfl)

/-! X8_gone -/
abbrev rmX8_gone : Room := { frames := 2, cells := 0, slots := 0, locals := 41 }
def PX8_gone_L17 (v_t : OV) (v_c : OV) (v_h : OV) (v_s : OV)  (post : Int32 → Prop) : Nat → Int32 → Int32 → Int32 → Int32 → Prop
  | 0, _, _, _, _ => False
  | n + 1, y1, y2, y3, y4 => (((v_h.1 4) ≤ y4 → (∀ x2 : Int32, x2 = ((v_h.1 3) * y2) → (∀ x3 : Int32, x3 = (x2 + ((((100 : Int32)) - (v_h.1 3)) * y3)) → (PX8_ofLowestTerms x2 x3 y1 (fun r4 => post r4))))) ∧ (¬ (v_h.1 4) ≤ y4 → (vp_in y4 10 ∧ (∀ x7 : Int32, x7 = (y2 + (v_h.2.1 7 y4.toNatClampNeg)) → (PX6_triedBy v_s y4 (fun r8 => ((¬ r8 = ((0 : Int32)) → (∀ x11 : Int32, x11 = y4 + (1 : Int32) → PX8_gone_L17 v_t v_c v_h v_s post n y1 x7 y3 x11)) ∧ (r8 = ((0 : Int32)) → (vp_in y4 10 ∧ (∀ x13 : Int32, x13 = (y3 + (v_h.2.1 7 y4.toNatClampNeg)) → (∀ x14 : Int32, x14 = y4 + (1 : Int32) → PX8_gone_L17 v_t v_c v_h v_s post n y1 x7 x13 x14)))))))))))
set_option maxRecDepth 100000 in
set_option maxHeartbeats 1000000 in
theorem wX8_gone_L17 {v_t : OV} {v_c : OV} {v_h : OV} {v_s : OV}  {post : Int32 → Prop} {ad_t : Nat → Nat} {ad_c : Nat → Nat} {ad_h : Nat → Nat} {ad_s : Nat → Nat} (X : kn_X p s m args meth c cX8_gone 6 (some .int) RX8 kn_all D tc Z (kn_A w0 s.heap.size)) (e_t_6 : ad_t (6 + 1) = ad_c 0) (e_c_0 : ad_c (0 + 1) = ad_h 0) (e_c_3 : ad_c (3 + 1) = ad_s 0)   : ∀ n : Nat, ∀ (H : Heap) (locs : List Loc) (ls : Array Slot) (y1 : Int32) (y2 : Int32) (y3 : Int32) (y4 : Int32), kn_I D tc (kn_A w0 s.heap.size) s.heap [(kTin, ad_t, v_t), (kScene, ad_c, v_c), (kHill, ad_h, v_h), (kState, ad_s, v_s)] H locs → lv_has ls 6 [(0, .ref (ad_t 0)), (1, .int y1), (2, .int y2), (3, .int y3), (4, .int y4)] → PX8_gone_L17 v_t v_c v_h v_s post n y1 y2 y3 y4 → W p l e rmX8_gone s m args below meth c H locs 0 0 (kn_Qi D tc w0 (fun (u : Unit) => [(kTin, ad_t, v_t), (kScene, ad_c, v_c), (kHill, ad_h, v_h), (kState, ad_s, v_s)]) (fun (r : Int32) (u : Unit) => post r) below args s 0 0) (F0 m 17 ls []) := by
  obtain ⟨S0, hr, hlocks, hK, hZ, hA⟩ := id X
  obtain ⟨hx, hb, hml, hown, hts⟩ := id S0
  intro n
  induction n with
  | zero =>
    intro H locs ls y1 y2 y3 y4 I hl h
    unfold PX8_gone_L17 at h
    exact h.elim
  | succ n ih =>
    intro H locs ls y1 y2 y3 y4 I hl h
    unfold PX8_gone_L17 at h
    refine lv_iload hx hb (kn_dec tX8_gone 12 rfl) (lv_at hl 4 rfl) ?_
    refine lv_aload_n hx hb (kn_dec tX8_gone 13 rfl) rfl (lv_at hl 0 rfl) ?_
    refine kw_getl hx hb hts inX8 hown hK I 0 rfl rfl 6 (by decide) rfl (hts _ q2_105) (kn_dec tX8_gone 14 rfl) e_t_6 ?_
    refine kw_getl hx hb hts inX5 hown hK I 1 rfl rfl 0 (by decide) rfl (hts _ q2_28) (kn_dec tX8_gone 15 rfl) e_c_0 ?_
    refine kw_geti hx hb hts inX0 hown hK I 2 rfl rfl 4 (by decide) rfl (hts _ q1_131) (kn_dec tX8_gone 16 rfl) ?_
    refine lv_icmp_ge (tgt := 85) hx hb (kn_dec tX8_gone 17 rfl) (by decide) (fun c1 => ?_) (fun c1 => ?_)
    · have h := h.1 c1
      refine lv_aload_n hx hb (kn_dec tX8_gone 44 rfl) rfl (lv_at hl 0 rfl) ?_
      refine kw_getl hx hb hts inX8 hown hK I 0 rfl rfl 6 (by decide) rfl (hts _ q2_105) (kn_dec tX8_gone 45 rfl) e_t_6 ?_
      refine kw_getl hx hb hts inX5 hown hK I 1 rfl rfl 0 (by decide) rfl (hts _ q2_28) (kn_dec tX8_gone 46 rfl) e_c_0 ?_
      refine kw_geti hx hb hts inX0 hown hK I 2 rfl rfl 3 (by decide) rfl (hts _ q1_127) (kn_dec tX8_gone 47 rfl) ?_
      refine lv_iload_n hx hb (kn_dec tX8_gone 48 rfl) rfl (lv_at hl 2 rfl) ?_
      refine lv_imul hx hb (kn_dec tX8_gone 49 rfl) ?_
      refine lv_topi (fun x2 ex2 => ?_)
      have h := h x2 ex2
      refine lv_istore (lv' := [(4, .int _), (0, .ref (ad_t 0)), (1, .int _), (2, .int _), (3, .int _)]) hx hb (kn_dec tX8_gone 50 rfl) hl (by decide) rfl (fun ls hl => ?_)
      refine lv_iload hx hb (kn_dec tX8_gone 51 rfl) (lv_at hl 0 rfl) ?_
      refine lv_bipush (v := (100)) hx hb (kn_dec tX8_gone 52 rfl) (by decide) ?_
      refine lv_aload_n hx hb (kn_dec tX8_gone 53 rfl) rfl (lv_at hl 1 rfl) ?_
      refine kw_getl hx hb hts inX8 hown hK I 0 rfl rfl 6 (by decide) rfl (hts _ q2_105) (kn_dec tX8_gone 54 rfl) e_t_6 ?_
      refine kw_getl hx hb hts inX5 hown hK I 1 rfl rfl 0 (by decide) rfl (hts _ q2_28) (kn_dec tX8_gone 55 rfl) e_c_0 ?_
      refine kw_geti hx hb hts inX0 hown hK I 2 rfl rfl 3 (by decide) rfl (hts _ q1_127) (kn_dec tX8_gone 56 rfl) ?_
      refine lv_isub hx hb (kn_dec tX8_gone 57 rfl) ?_
      refine lv_iload_n hx hb (kn_dec tX8_gone 58 rfl) rfl (lv_at hl 4 rfl) ?_
      refine lv_imul hx hb (kn_dec tX8_gone 59 rfl) ?_
      refine lv_iadd hx hb (kn_dec tX8_gone 60 rfl) ?_
      refine lv_topi (fun x3 ex3 => ?_)
      have h := h x3 ex3
      refine lv_istore (lv' := [(5, .int _), (4, .int _), (0, .ref (ad_t 0)), (1, .int _), (2, .int _), (3, .int _)]) hx hb (kn_dec tX8_gone 61 rfl) hl (by decide) rfl (fun ls hl => ?_)
      refine lv_iload hx hb (kn_dec tX8_gone 62 rfl) (lv_at hl 1 rfl) ?_
      refine lv_iload hx hb (kn_dec tX8_gone 63 rfl) (lv_at hl 0 rfl) ?_
      refine lv_iload_n hx hb (kn_dec tX8_gone 64 rfl) rfl (lv_at hl 3 rfl) ?_
      refine kw_calli (wc := []) (wr := [(kTin, ad_t, _), (kScene, ad_c, _), (kHill, ad_h, _), (kState, ad_s, _)]) I hA [] [0, 1, 2, 3] rfl rfl (by decide) (by decide) (kn_runS (As := [.int _, .int _, .int _]) S0 hK hZ hA I ((ctX8_ofLowestTerms h).met _) (kn_cwS 3 hts q4_111 q4_112 q1_1 q4_113 rfl rfl (by decide +kernel) ⟨(Nat.le_of_ble_eq_true rfl), (Nat.le_of_ble_eq_true rfl)⟩) [] rfl (by decide) rfl hl.1 rfl (Nat.le_of_ble_eq_true rfl) (kn_dec tX8_gone 65 rfl) ⟨(Nat.le_of_ble_eq_true rfl), (Nat.le_of_ble_eq_true rfl)⟩) (fun r4 u5 H locs h I => ?_)
      have I : kn_I D tc (kn_A w0 s.heap.size) s.heap [(kTin, ad_t, _), (kScene, ad_c, _), (kHill, ad_h, _), (kState, ad_s, _)] _ _ := I
      exact kw_iret hx hb hr hlocks I () rfl h (kn_dec tX8_gone 66 rfl)
    · have h := h.2 c1
      refine lv_iload_n hx hb (kn_dec tX8_gone 18 rfl) rfl (lv_at hl 2 rfl) ?_
      refine lv_aload_n hx hb (kn_dec tX8_gone 19 rfl) rfl (lv_at hl 0 rfl) ?_
      refine kw_getl hx hb hts inX8 hown hK I 0 rfl rfl 6 (by decide) rfl (hts _ q2_105) (kn_dec tX8_gone 20 rfl) e_t_6 ?_
      refine kw_getl hx hb hts inX5 hown hK I 1 rfl rfl 0 (by decide) rfl (hts _ q2_28) (kn_dec tX8_gone 21 rfl) e_c_0 ?_
      refine kw_getl hx hb hts inX0 hown hK I 2 rfl rfl 7 (by decide) rfl (hts _ q1_144) (kn_dec tX8_gone 22 rfl) rfl ?_
      refine lv_iload hx hb (kn_dec tX8_gone 23 rfl) (lv_at hl 4 rfl) ?_
      obtain ⟨hs6, h⟩ := h
      refine kw_iald hx hb hK I 2 rfl 7 10 (List.mem_of_getElem? (i := 2) rfl) hs6 (kn_dec tX8_gone 24 rfl) ?_
      refine lv_iadd hx hb (kn_dec tX8_gone 25 rfl) ?_
      refine lv_topi (fun x7 ex7 => ?_)
      have h := h x7 ex7
      refine lv_istore_n (lv' := [(2, .int _), (0, .ref (ad_t 0)), (1, .int _), (3, .int _), (4, .int _)]) hx hb (kn_dec tX8_gone 26 rfl) rfl hl (by decide) rfl (fun ls hl => ?_)
      refine lv_aload_n hx hb (kn_dec tX8_gone 27 rfl) rfl (lv_at hl 1 rfl) ?_
      refine kw_getl hx hb hts inX8 hown hK I 0 rfl rfl 6 (by decide) rfl (hts _ q2_105) (kn_dec tX8_gone 28 rfl) e_t_6 ?_
      refine kw_getl hx hb hts inX5 hown hK I 1 rfl rfl 3 (by decide) rfl (hts _ q2_34) (kn_dec tX8_gone 29 rfl) e_c_3 ?_
      refine lv_iload hx hb (kn_dec tX8_gone 30 rfl) (lv_at hl 4 rfl) ?_
      refine kw_calli (wc := [(kState, ad_s, _)]) (wr := [(kTin, ad_t, _), (kScene, ad_c, _), (kHill, ad_h, _)]) I hA [3] [0, 1, 2] rfl rfl (by decide) (by decide) (kn_runV (As := [.int _]) S0 hK hZ hA I ((ctX6_triedBy h).met _) (kn_cwV 1 hts q3_146 q3_147 q3_148 q1_8 q3_149 rfl rfl (by decide +kernel) ⟨(Nat.le_of_ble_eq_true rfl), (Nat.le_of_ble_eq_true rfl)⟩) [3] rfl (by decide) 3 rfl rfl rfl rfl hl.1 rfl (Nat.le_of_ble_eq_true rfl) (kn_dec tX8_gone 31 rfl) ⟨(Nat.le_of_ble_eq_true rfl), (Nat.le_of_ble_eq_true rfl)⟩) (fun r8 u9 H locs h I => ?_)
      have I : kn_I D tc (kn_A w0 s.heap.size) s.heap [(kTin, ad_t, _), (kScene, ad_c, _), (kHill, ad_h, _), (kState, ad_s, _)] _ _ := I
      refine lv_if_ne (tgt := 79) hx hb (kn_dec tX8_gone 32 rfl) (by decide) (fun c10 => ?_) (fun c10 => ?_)
      · have h := h.1 c10
        refine kw_iinc (lvf := fun y => [(4, .int y), (2, .int _), (0, .ref (ad_t 0)), (1, .int _), (3, .int _)]) (nv := (1)) hx hb (kn_dec tX8_gone 42 rfl) hl (k := 4) rfl (by decide) (by decide) (fun _ => rfl) (fun x11 ex11 ls hl => ?_)
        have h := h x11 ex11
        refine lv_goto (tgt := 17) hx hb (kn_dec tX8_gone 43 rfl) (by decide) ?_
        exact ih _ _ _ _ _ _ _  I (lv_sub hl [2, 3, 1, 4, 0] rfl) h
      · have h := h.2 c10
        refine lv_iload_n hx hb (kn_dec tX8_gone 33 rfl) rfl (lv_at hl 3 rfl) ?_
        refine lv_aload_n hx hb (kn_dec tX8_gone 34 rfl) rfl (lv_at hl 1 rfl) ?_
        refine kw_getl hx hb hts inX8 hown hK I 0 rfl rfl 6 (by decide) rfl (hts _ q2_105) (kn_dec tX8_gone 35 rfl) e_t_6 ?_
        refine kw_getl hx hb hts inX5 hown hK I 1 rfl rfl 0 (by decide) rfl (hts _ q2_28) (kn_dec tX8_gone 36 rfl) e_c_0 ?_
        refine kw_getl hx hb hts inX0 hown hK I 2 rfl rfl 7 (by decide) rfl (hts _ q1_144) (kn_dec tX8_gone 37 rfl) rfl ?_
        refine lv_iload hx hb (kn_dec tX8_gone 38 rfl) (lv_at hl 4 rfl) ?_
        obtain ⟨hs12, h⟩ := h
        refine kw_iald hx hb hK I 2 rfl 7 10 (List.mem_of_getElem? (i := 2) rfl) hs12 (kn_dec tX8_gone 39 rfl) ?_
        refine lv_iadd hx hb (kn_dec tX8_gone 40 rfl) ?_
        refine lv_topi (fun x13 ex13 => ?_)
        have h := h x13 ex13
        refine lv_istore_n (lv' := [(3, .int _), (2, .int _), (0, .ref (ad_t 0)), (1, .int _), (4, .int _)]) hx hb (kn_dec tX8_gone 41 rfl) rfl hl (by decide) rfl (fun ls hl => ?_)
        refine kw_iinc (lvf := fun y => [(4, .int y), (3, .int _), (2, .int _), (0, .ref (ad_t 0)), (1, .int _)]) (nv := (1)) hx hb (kn_dec tX8_gone 42 rfl) hl (k := 4) rfl (by decide) (by decide) (fun _ => rfl) (fun x14 ex14 ls hl => ?_)
        have h := h x14 ex14
        refine lv_goto (tgt := 17) hx hb (kn_dec tX8_gone 43 rfl) (by decide) ?_
        exact ih _ _ _ _ _ _ _  I (lv_sub hl [3, 4, 2, 1, 0] rfl) h
def PX8_gone  (v_t : OV) (v_c : OV) (v_h : OV) (v_s : OV) (a1 : Int32) (post : Int32 → Prop) : Prop := (PX8_isTold v_t v_c v_h a1 (fun r1 => ((¬ r1 = ((0 : Int32)) → (∃ n4 : Nat, PX8_gone_L17 v_t v_c v_h v_s post n4 a1 ((0 : Int32)) ((0 : Int32)) ((0 : Int32)))) ∧ (r1 = ((0 : Int32)) → post ((-1 : Int32))))))
set_option maxRecDepth 100000 in
set_option maxHeartbeats 1000000 in
theorem ctX8_gone {l : Launch} {D : va_G} {tc : Nat → ClassId} {Z : (Nat → Nat) × (Nat → Nat)}  {ad_t : Nat → Nat} {ad_c : Nat → Nat} {ad_h : Nat → Nat} {ad_s : Nat → Nat} {v_t : OV} {v_c : OV} {v_h : OV} {v_s : OV} {a1 : Int32} (e_t_6 : ad_t (6 + 1) = ad_c 0) (e_c_0 : ad_c (0 + 1) = ad_h 0) (e_c_3 : ad_c (3 + 1) = ad_s 0)   {post : Int32 → Prop} (h : PX8_gone  v_t v_c v_h v_s a1 post) : CTi l D tc Z yX8_gone (Cond.code yX8_gone cX8_gone 6 (some .int) :: kn_all) rmX8_gone 0 0 [.ref (ad_t 0), .int a1] [(kTin, ad_t, v_t), (kScene, ad_c, v_c), (kHill, ad_h, v_h), (kState, ad_s, v_s)] (fun (u : Unit) => [(kTin, ad_t, v_t), (kScene, ad_c, v_c), (kHill, ad_h, v_h), (kState, ad_s, v_s)]) (fun (r : Int32) (u : Unit) => post r) := by
  refine kn_ofi (cc := cX8_gone) (nL := 6) (ret := (some .int)) (lv := [(0, .ref (ad_t 0)), (1, .int a1)]) (by decide) (Nat.le_of_ble_eq_true rfl) rfl (fun p e s m below meth c ls X I hl _ => ?_)
  obtain ⟨S0, hr, hlocks, hK, hZ, hA⟩ := id X
  obtain ⟨hx, hb, hml, hown, hts⟩ := id S0
  unfold PX8_gone at h
  refine lv_aload_n hx hb (kn_dec tX8_gone 0 rfl) rfl (lv_at hl 0 rfl) ?_
  refine lv_iload_n hx hb (kn_dec tX8_gone 1 rfl) rfl (lv_at hl 1 rfl) ?_
  refine kw_calli (wc := [(kTin, ad_t, _), (kScene, ad_c, _), (kHill, ad_h, _)]) (wr := [(kState, ad_s, _)]) I hA [0, 1, 2] [3] rfl rfl (by decide) (by decide) (kn_runV (As := [.int _]) S0 hK hZ hA I ((ctX8_isTold e_t_6 e_c_0 h).met _) (kn_cwV 1 hts q4_58 q4_60 q0_22 q1_1 q4_61 rfl rfl (by decide +kernel) ⟨(Nat.le_of_ble_eq_true rfl), (Nat.le_of_ble_eq_true rfl)⟩) [0, 1, 2] rfl (by decide) 0 rfl rfl rfl rfl hl.1 rfl (Nat.le_of_ble_eq_true rfl) (kn_dec tX8_gone 2 rfl) ⟨(Nat.le_of_ble_eq_true rfl), (Nat.le_of_ble_eq_true rfl)⟩) (fun r1 u2 H locs h I => ?_)
  obtain ⟨hz_r1, h⟩ := h
  have I : kn_I D tc (kn_A _ s.heap.size) s.heap [(kTin, ad_t, _), (kScene, ad_c, _), (kHill, ad_h, _), (kState, ad_s, _)] _ _ := I.sub [1, 2, 3, 0] (by decide) rfl
  refine lv_if_ne (tgt := 10) hx hb (kn_dec tX8_gone 3 rfl) (by decide) (fun c3 => ?_) (fun c3 => ?_)
  · have h := h.1 c3
    refine lv_iconst (v := (0)) hx hb (kn_dec tX8_gone 6 rfl) (by decide) ?_
    refine lv_istore_n (lv' := [(2, .int _), (0, .ref (ad_t 0)), (1, .int _)]) hx hb (kn_dec tX8_gone 7 rfl) rfl hl (by decide) rfl (fun ls hl => ?_)
    refine lv_iconst (v := (0)) hx hb (kn_dec tX8_gone 8 rfl) (by decide) ?_
    refine lv_istore_n (lv' := [(3, .int _), (2, .int _), (0, .ref (ad_t 0)), (1, .int _)]) hx hb (kn_dec tX8_gone 9 rfl) rfl hl (by decide) rfl (fun ls hl => ?_)
    refine lv_iconst (v := (0)) hx hb (kn_dec tX8_gone 10 rfl) (by decide) ?_
    refine lv_istore (lv' := [(4, .int _), (3, .int _), (2, .int _), (0, .ref (ad_t 0)), (1, .int _)]) hx hb (kn_dec tX8_gone 11 rfl) hl (by decide) rfl (fun ls hl => ?_)
    obtain ⟨n4, h⟩ := h
    exact wX8_gone_L17 X e_t_6 e_c_0 e_c_3 n4 _ _ _ _ _ _ _  I (lv_sub hl [3, 4, 2, 1, 0] rfl) h
  · have h := h.2 c3
    refine lv_iconst (v := (-1)) hx hb (kn_dec tX8_gone 4 rfl) (by decide) ?_
    exact kw_iret hx hb hr hlocks I () rfl h (kn_dec tX8_gone 5 rfl)

/-! X8_hint -/
abbrev rmX8_hint : Room := { frames := 2, cells := 0, slots := 0, locals := 88 }
def PX8_hint_L27 (v_t : OV) (v_c : OV) (v_h : OV)  (post : Int32 → Prop) : Nat → Int32 → Int32 → Int32 → Int32 → Prop
  | 0, _, _, _, _ => False
  | n + 1, y1, y2, y3, y4 => ((((99 : Int32)) < y4 → ((¬ y1 = ((0 : Int32)) → post y3) ∧ (y1 = ((0 : Int32)) → post y2))) ∧ (¬ ((99 : Int32)) < y4 → (PX0_greaterPart v_h y4 (fun r3 => ((y3 ≤ r3 → (∀ x6 : Int32, x6 = y4 + (1 : Int32) → PX8_hint_L27 v_t v_c v_h post n y1 y2 y3 x6)) ∧ (¬ y3 ≤ r3 → (∀ x7 : Int32, x7 = y4 + (1 : Int32) → PX8_hint_L27 v_t v_c v_h post n y1 y4 r3 x7)))))))
set_option maxRecDepth 100000 in
set_option maxHeartbeats 1000000 in
theorem wX8_hint_L27 {v_t : OV} {v_c : OV} {v_h : OV}  {post : Int32 → Prop} {ad_t : Nat → Nat} {ad_c : Nat → Nat} {ad_h : Nat → Nat} (X : kn_X p s m args meth c cX8_hint 6 (some .int) RX8 kn_all D tc Z (kn_A w0 s.heap.size)) (e_t_6 : ad_t (6 + 1) = ad_c 0) (e_c_0 : ad_c (0 + 1) = ad_h 0)   : ∀ n : Nat, ∀ (H : Heap) (locs : List Loc) (ls : Array Slot) (y1 : Int32) (y2 : Int32) (y3 : Int32) (y4 : Int32), kn_I D tc (kn_A w0 s.heap.size) s.heap [(kTin, ad_t, v_t), (kScene, ad_c, v_c), (kHill, ad_h, v_h)] H locs → lv_has ls 6 [(0, .ref (ad_t 0)), (1, .int y1), (2, .int y2), (3, .int y3), (4, .int y4)] → PX8_hint_L27 v_t v_c v_h post n y1 y2 y3 y4 → W p l e rmX8_hint s m args below meth c H locs 0 0 (kn_Qi D tc w0 (fun (u : Unit) => [(kTin, ad_t, v_t), (kScene, ad_c, v_c), (kHill, ad_h, v_h)]) (fun (r : Int32) (u : Unit) => post r) below args s 0 0) (F0 m 27 ls []) := by
  obtain ⟨S0, hr, hlocks, hK, hZ, hA⟩ := id X
  obtain ⟨hx, hb, hml, hown, hts⟩ := id S0
  intro n
  induction n with
  | zero =>
    intro H locs ls y1 y2 y3 y4 I hl h
    unfold PX8_hint_L27 at h
    exact h.elim
  | succ n ih =>
    intro H locs ls y1 y2 y3 y4 I hl h
    unfold PX8_hint_L27 at h
    refine lv_iload hx hb (kn_dec tX8_hint 16 rfl) (lv_at hl 4 rfl) ?_
    refine lv_bipush (v := (99)) hx hb (kn_dec tX8_hint 17 rfl) (by decide) ?_
    refine lv_icmp_gt (tgt := 66) hx hb (kn_dec tX8_hint 18 rfl) (by decide) (fun c1 => ?_) (fun c1 => ?_)
    · have h := h.1 c1
      refine lv_iload_n hx hb (kn_dec tX8_hint 34 rfl) rfl (lv_at hl 1 rfl) ?_
      refine lv_if_ne (tgt := 74) hx hb (kn_dec tX8_hint 35 rfl) (by decide) (fun c2 => ?_) (fun c2 => ?_)
      · have h := h.1 c2
        refine lv_iload_n hx hb (kn_dec tX8_hint 38 rfl) rfl (lv_at hl 3 rfl) ?_
        exact kw_iret hx hb hr hlocks I () rfl h (kn_dec tX8_hint 39 rfl)
      · have h := h.2 c2
        refine lv_iload_n hx hb (kn_dec tX8_hint 36 rfl) rfl (lv_at hl 2 rfl) ?_
        refine lv_goto (tgt := 75) hx hb (kn_dec tX8_hint 37 rfl) (by decide) ?_
        exact kw_iret hx hb hr hlocks I () rfl h (kn_dec tX8_hint 39 rfl)
    · have h := h.2 c1
      refine lv_aload_n hx hb (kn_dec tX8_hint 19 rfl) rfl (lv_at hl 0 rfl) ?_
      refine kw_getl hx hb hts inX8 hown hK I 0 rfl rfl 6 (by decide) rfl (hts _ q2_105) (kn_dec tX8_hint 20 rfl) e_t_6 ?_
      refine kw_getl hx hb hts inX5 hown hK I 1 rfl rfl 0 (by decide) rfl (hts _ q2_28) (kn_dec tX8_hint 21 rfl) e_c_0 ?_
      refine lv_iload hx hb (kn_dec tX8_hint 22 rfl) (lv_at hl 4 rfl) ?_
      refine kw_calli (wc := [(kHill, ad_h, _)]) (wr := [(kTin, ad_t, _), (kScene, ad_c, _)]) I hA [2] [0, 1] rfl rfl (by decide) (by decide) (kn_runV (As := [.int _]) S0 hK hZ hA I ((ctX0_greaterPart h).met _) (kn_cwV 1 hts q4_122 q4_123 q4_124 q1_7 q4_125 rfl rfl (by decide +kernel) ⟨(Nat.le_of_ble_eq_true rfl), (Nat.le_of_ble_eq_true rfl)⟩) [2] rfl (by decide) 2 rfl rfl rfl rfl hl.1 rfl (Nat.le_of_ble_eq_true rfl) (kn_dec tX8_hint 23 rfl) ⟨(Nat.le_of_ble_eq_true rfl), (Nat.le_of_ble_eq_true rfl)⟩) (fun r3 u4 H locs h I => ?_)
      have I : kn_I D tc (kn_A w0 s.heap.size) s.heap [(kTin, ad_t, _), (kScene, ad_c, _), (kHill, ad_h, _)] _ _ := I
      refine lv_istore (lv' := [(5, .int _), (0, .ref (ad_t 0)), (1, .int _), (2, .int _), (3, .int _), (4, .int _)]) hx hb (kn_dec tX8_hint 24 rfl) hl (by decide) rfl (fun ls hl => ?_)
      refine lv_iload hx hb (kn_dec tX8_hint 25 rfl) (lv_at hl 0 rfl) ?_
      refine lv_iload_n hx hb (kn_dec tX8_hint 26 rfl) rfl (lv_at hl 4 rfl) ?_
      refine lv_icmp_ge (tgt := 60) hx hb (kn_dec tX8_hint 27 rfl) (by decide) (fun c5 => ?_) (fun c5 => ?_)
      · have h := h.1 c5
        refine kw_iinc (lvf := fun y => [(4, .int y), (5, .int _), (0, .ref (ad_t 0)), (1, .int _), (2, .int _), (3, .int _)]) (nv := (1)) hx hb (kn_dec tX8_hint 32 rfl) hl (k := 5) rfl (by decide) (by decide) (fun _ => rfl) (fun x6 ex6 ls hl => ?_)
        have h := h x6 ex6
        refine lv_goto (tgt := 27) hx hb (kn_dec tX8_hint 33 rfl) (by decide) ?_
        exact ih _ _ _ _ _ _ _  I (lv_sub hl [2, 3, 4, 5, 0] rfl) h
      · have h := h.2 c5
        refine lv_iload hx hb (kn_dec tX8_hint 28 rfl) (lv_at hl 5 rfl) ?_
        refine lv_istore_n (lv' := [(2, .int _), (5, .int _), (0, .ref (ad_t 0)), (1, .int _), (3, .int _), (4, .int _)]) hx hb (kn_dec tX8_hint 29 rfl) rfl hl (by decide) rfl (fun ls hl => ?_)
        refine lv_iload hx hb (kn_dec tX8_hint 30 rfl) (lv_at hl 1 rfl) ?_
        refine lv_istore_n (lv' := [(3, .int _), (2, .int _), (5, .int _), (0, .ref (ad_t 0)), (1, .int _), (4, .int _)]) hx hb (kn_dec tX8_hint 31 rfl) rfl hl (by decide) rfl (fun ls hl => ?_)
        refine kw_iinc (lvf := fun y => [(4, .int y), (3, .int _), (2, .int _), (5, .int _), (0, .ref (ad_t 0)), (1, .int _)]) (nv := (1)) hx hb (kn_dec tX8_hint 32 rfl) hl (k := 5) rfl (by decide) (by decide) (fun _ => rfl) (fun x7 ex7 ls hl => ?_)
        have h := h x7 ex7
        refine lv_goto (tgt := 27) hx hb (kn_dec tX8_hint 33 rfl) (by decide) ?_
        exact ih _ _ _ _ _ _ _  I (lv_sub hl [4, 5, 2, 1, 0] rfl) h
def PX8_hint  (v_t : OV) (v_c : OV) (v_h : OV) (a1 : Int32) (post : Int32 → Prop) : Prop := (PX8_isTold v_t v_c v_h a1 (fun r1 => ((¬ r1 = ((0 : Int32)) → (PX0_greaterPart v_h ((1 : Int32)) (fun r4 => (∃ n6 : Nat, PX8_hint_L27 v_t v_c v_h post n6 a1 ((1 : Int32)) r4 ((2 : Int32)))))) ∧ (r1 = ((0 : Int32)) → post ((-1 : Int32))))))
set_option maxRecDepth 100000 in
set_option maxHeartbeats 1000000 in
theorem ctX8_hint {l : Launch} {D : va_G} {tc : Nat → ClassId} {Z : (Nat → Nat) × (Nat → Nat)}  {ad_t : Nat → Nat} {ad_c : Nat → Nat} {ad_h : Nat → Nat} {v_t : OV} {v_c : OV} {v_h : OV} {a1 : Int32} (e_t_6 : ad_t (6 + 1) = ad_c 0) (e_c_0 : ad_c (0 + 1) = ad_h 0)   {post : Int32 → Prop} (h : PX8_hint  v_t v_c v_h a1 post) : CTi l D tc Z yX8_hint (Cond.code yX8_hint cX8_hint 6 (some .int) :: kn_all) rmX8_hint 0 0 [.ref (ad_t 0), .int a1] [(kTin, ad_t, v_t), (kScene, ad_c, v_c), (kHill, ad_h, v_h)] (fun (u : Unit) => [(kTin, ad_t, v_t), (kScene, ad_c, v_c), (kHill, ad_h, v_h)]) (fun (r : Int32) (u : Unit) => post r) := by
  refine kn_ofi (cc := cX8_hint) (nL := 6) (ret := (some .int)) (lv := [(0, .ref (ad_t 0)), (1, .int a1)]) (by decide) (Nat.le_of_ble_eq_true rfl) rfl (fun p e s m below meth c ls X I hl _ => ?_)
  obtain ⟨S0, hr, hlocks, hK, hZ, hA⟩ := id X
  obtain ⟨hx, hb, hml, hown, hts⟩ := id S0
  unfold PX8_hint at h
  refine lv_aload_n hx hb (kn_dec tX8_hint 0 rfl) rfl (lv_at hl 0 rfl) ?_
  refine lv_iload_n hx hb (kn_dec tX8_hint 1 rfl) rfl (lv_at hl 1 rfl) ?_
  refine kw_calli (wc := [(kTin, ad_t, _), (kScene, ad_c, _), (kHill, ad_h, _)]) (wr := []) I hA [0, 1, 2] [] rfl rfl (by decide) (by decide) (kn_runV (As := [.int _]) S0 hK hZ hA I ((ctX8_isTold e_t_6 e_c_0 h).met _) (kn_cwV 1 hts q4_58 q4_60 q0_22 q1_1 q4_61 rfl rfl (by decide +kernel) ⟨(Nat.le_of_ble_eq_true rfl), (Nat.le_of_ble_eq_true rfl)⟩) [0, 1, 2] rfl (by decide) 0 rfl rfl rfl rfl hl.1 rfl (Nat.le_of_ble_eq_true rfl) (kn_dec tX8_hint 2 rfl) ⟨(Nat.le_of_ble_eq_true rfl), (Nat.le_of_ble_eq_true rfl)⟩) (fun r1 u2 H locs h I => ?_)
  obtain ⟨hz_r1, h⟩ := h
  have I : kn_I D tc (kn_A _ s.heap.size) s.heap [(kTin, ad_t, _), (kScene, ad_c, _), (kHill, ad_h, _)] _ _ := I
  refine lv_if_ne (tgt := 10) hx hb (kn_dec tX8_hint 3 rfl) (by decide) (fun c3 => ?_) (fun c3 => ?_)
  · have h := h.1 c3
    refine lv_iconst (v := (1)) hx hb (kn_dec tX8_hint 6 rfl) (by decide) ?_
    refine lv_istore_n (lv' := [(2, .int _), (0, .ref (ad_t 0)), (1, .int _)]) hx hb (kn_dec tX8_hint 7 rfl) rfl hl (by decide) rfl (fun ls hl => ?_)
    refine lv_aload_n hx hb (kn_dec tX8_hint 8 rfl) rfl (lv_at hl 1 rfl) ?_
    refine kw_getl hx hb hts inX8 hown hK I 0 rfl rfl 6 (by decide) rfl (hts _ q2_105) (kn_dec tX8_hint 9 rfl) e_t_6 ?_
    refine kw_getl hx hb hts inX5 hown hK I 1 rfl rfl 0 (by decide) rfl (hts _ q2_28) (kn_dec tX8_hint 10 rfl) e_c_0 ?_
    refine lv_iconst (v := (1)) hx hb (kn_dec tX8_hint 11 rfl) (by decide) ?_
    refine kw_calli (wc := [(kHill, ad_h, _)]) (wr := [(kTin, ad_t, _), (kScene, ad_c, _)]) I hA [2] [0, 1] rfl rfl (by decide) (by decide) (kn_runV (As := [.int _]) S0 hK hZ hA I ((ctX0_greaterPart h).met _) (kn_cwV 1 hts q4_122 q4_123 q4_124 q1_7 q4_125 rfl rfl (by decide +kernel) ⟨(Nat.le_of_ble_eq_true rfl), (Nat.le_of_ble_eq_true rfl)⟩) [2] rfl (by decide) 2 rfl rfl rfl rfl hl.1 rfl (Nat.le_of_ble_eq_true rfl) (kn_dec tX8_hint 12 rfl) ⟨(Nat.le_of_ble_eq_true rfl), (Nat.le_of_ble_eq_true rfl)⟩) (fun r4 u5 H locs h I => ?_)
    have I : kn_I D tc (kn_A _ s.heap.size) s.heap [(kTin, ad_t, _), (kScene, ad_c, _), (kHill, ad_h, _)] _ _ := I
    refine lv_istore_n (lv' := [(3, .int _), (2, .int _), (0, .ref (ad_t 0)), (1, .int _)]) hx hb (kn_dec tX8_hint 13 rfl) rfl hl (by decide) rfl (fun ls hl => ?_)
    refine lv_iconst (v := (2)) hx hb (kn_dec tX8_hint 14 rfl) (by decide) ?_
    refine lv_istore (lv' := [(4, .int _), (3, .int _), (2, .int _), (0, .ref (ad_t 0)), (1, .int _)]) hx hb (kn_dec tX8_hint 15 rfl) hl (by decide) rfl (fun ls hl => ?_)
    obtain ⟨n6, h⟩ := h
    exact wX8_hint_L27 X e_t_6 e_c_0 n6 _ _ _ _ _ _ _  I (lv_sub hl [3, 4, 2, 1, 0] rfl) h
  · have h := h.2 c3
    refine lv_iconst (v := (-1)) hx hb (kn_dec tX8_hint 4 rfl) (by decide) ?_
    exact kw_iret hx hb hr hlocks I () rfl h (kn_dec tX8_hint 5 rfl)

/-! X8_name -/
abbrev rmX8_name : Room := { frames := 1, cells := 0, slots := 0, locals := 21 }
def PX8_name  (v_t : OV) (v_c : OV) (v_h : OV) (a1 : Int32) (a2 : Int32) (post : Int32 → OV → Prop) : Prop := ((¬ a1 = ((-1 : Int32)) → ((a1 < ((0 : Int32)) → post ((-2 : Int32)) v_c) ∧ (¬ a1 < ((0 : Int32)) → ((((60 : Int32)) < a1 → post ((-2 : Int32)) v_c) ∧ (¬ ((60 : Int32)) < a1 → (PX8_hasSeeker v_t v_c v_h a2 (fun r4 => ((r4 = ((0 : Int32)) → post ((-2 : Int32)) v_c) ∧ (¬ r4 = ((0 : Int32)) → (((v_c.1 7) < ((10 : Int32)) → (vp_in (v_c.1 7) 10 ∧ (∀ v_c9 : OV, v_c9 = sa v_c 8 (upd (v_c.2.1 8) (v_c.1 7).toNatClampNeg a1) → (vp_in (v_c9.1 7) 10 ∧ (∀ v_c11 : OV, v_c11 = sa v_c9 9 (upd (v_c9.2.1 9) (v_c9.1 7).toNatClampNeg a2) → (∀ x12 : Int32, x12 = ((v_c11.1 7) + ((1 : Int32))) → (∀ v_c13 : OV, v_c13 = si v_c11 7 x12 → post (v_c13.1 7) v_c13))))))) ∧ (¬ (v_c.1 7) < ((10 : Int32)) → post ((-2 : Int32)) v_c))))))))))) ∧ (a1 = ((-1 : Int32)) → (∀ v_c14 : OV, v_c14 = si v_c 7 ((0 : Int32)) → post ((0 : Int32)) v_c14)))
set_option maxRecDepth 100000 in
set_option maxHeartbeats 1000000 in
theorem ctX8_name {l : Launch} {D : va_G} {tc : Nat → ClassId} {Z : (Nat → Nat) × (Nat → Nat)}  {ad_t : Nat → Nat} {ad_c : Nat → Nat} {ad_h : Nat → Nat} {v_t : OV} {v_c : OV} {v_h : OV} {a1 : Int32} {a2 : Int32} (e_t_6 : ad_t (6 + 1) = ad_c 0) (e_c_0 : ad_c (0 + 1) = ad_h 0)   {post : Int32 → OV → Prop} (h : PX8_name  v_t v_c v_h a1 a2 post) : CTi l D tc Z yX8_name (Cond.code yX8_name cX8_name 3 (some .int) :: kn_all) rmX8_name 0 0 [.ref (ad_t 0), .int a1, .int a2] [(kTin, ad_t, v_t), (kScene, ad_c, v_c), (kHill, ad_h, v_h)] (fun (u : OV) => [(kTin, ad_t, v_t), (kScene, ad_c, u), (kHill, ad_h, v_h)]) (fun (r : Int32) (u : OV) => post r u) := by
  refine kn_ofi (cc := cX8_name) (nL := 3) (ret := (some .int)) (lv := [(0, .ref (ad_t 0)), (1, .int a1), (2, .int a2)]) (by decide) (Nat.le_of_ble_eq_true rfl) rfl (fun p e s m below meth c ls X I hl _ => ?_)
  obtain ⟨S0, hr, hlocks, hK, hZ, hA⟩ := id X
  obtain ⟨hx, hb, hml, hown, hts⟩ := id S0
  unfold PX8_name at h
  refine lv_iload_n hx hb (kn_dec tX8_name 0 rfl) rfl (lv_at hl 1 rfl) ?_
  refine lv_iconst (v := (-1)) hx hb (kn_dec tX8_name 1 rfl) (by decide) ?_
  refine lv_icmp_ne (tgt := 15) hx hb (kn_dec tX8_name 2 rfl) (by decide) (fun c1 => ?_) (fun c1 => ?_)
  · have h := h.1 c1
    refine lv_iload_n hx hb (kn_dec tX8_name 9 rfl) rfl (lv_at hl 1 rfl) ?_
    refine lv_if_lt (tgt := 45) hx hb (kn_dec tX8_name 10 rfl) (by decide) (fun c2 => ?_) (fun c2 => ?_)
    · have h := h.1 c2
      refine lv_bipush (v := (-2)) hx hb (kn_dec tX8_name 23 rfl) (by decide) ?_
      exact kw_iret hx hb hr hlocks I _ rfl h (kn_dec tX8_name 24 rfl)
    · have h := h.2 c2
      refine lv_iload_n hx hb (kn_dec tX8_name 11 rfl) rfl (lv_at hl 1 rfl) ?_
      refine lv_bipush (v := (60)) hx hb (kn_dec tX8_name 12 rfl) (by decide) ?_
      refine lv_icmp_gt (tgt := 45) hx hb (kn_dec tX8_name 13 rfl) (by decide) (fun c3 => ?_) (fun c3 => ?_)
      · have h := h.1 c3
        refine lv_bipush (v := (-2)) hx hb (kn_dec tX8_name 23 rfl) (by decide) ?_
        exact kw_iret hx hb hr hlocks I _ rfl h (kn_dec tX8_name 24 rfl)
      · have h := h.2 c3
        refine lv_aload_n hx hb (kn_dec tX8_name 14 rfl) rfl (lv_at hl 0 rfl) ?_
        refine lv_iload_n hx hb (kn_dec tX8_name 15 rfl) rfl (lv_at hl 2 rfl) ?_
        refine kw_calli (wc := [(kTin, ad_t, _), (kScene, ad_c, _), (kHill, ad_h, _)]) (wr := []) I hA [0, 1, 2] [] rfl rfl (by decide) (by decide) (kn_runV (As := [.int _]) S0 hK hZ hA I ((ctX8_hasSeeker e_t_6 e_c_0 h).met _) (kn_cwV 1 hts q3_154 q3_156 q0_13 q1_1 q3_157 rfl rfl (by decide +kernel) ⟨(Nat.le_of_ble_eq_true rfl), (Nat.le_of_ble_eq_true rfl)⟩) [0, 1, 2] rfl (by decide) 0 rfl rfl rfl rfl hl.1 rfl (Nat.le_of_ble_eq_true rfl) (kn_dec tX8_name 16 rfl) ⟨(Nat.le_of_ble_eq_true rfl), (Nat.le_of_ble_eq_true rfl)⟩) (fun r4 u5 H locs h I => ?_)
        obtain ⟨hz_r4, h⟩ := h
        have I : kn_I D tc (kn_A _ s.heap.size) s.heap [(kTin, ad_t, _), (kScene, ad_c, _), (kHill, ad_h, _)] _ _ := I
        refine lv_if_eq (tgt := 45) hx hb (kn_dec tX8_name 17 rfl) (by decide) (fun c6 => ?_) (fun c6 => ?_)
        · have h := h.1 c6
          refine lv_bipush (v := (-2)) hx hb (kn_dec tX8_name 23 rfl) (by decide) ?_
          exact kw_iret hx hb hr hlocks I _ rfl h (kn_dec tX8_name 24 rfl)
        · have h := h.2 c6
          refine lv_aload_n hx hb (kn_dec tX8_name 18 rfl) rfl (lv_at hl 0 rfl) ?_
          refine kw_getl hx hb hts inX8 hown hK I 0 rfl rfl 6 (by decide) rfl (hts _ q2_105) (kn_dec tX8_name 19 rfl) e_t_6 ?_
          refine kw_geti hx hb hts inX5 hown hK I 1 rfl rfl 7 (by decide) rfl (hts _ q2_40) (kn_dec tX8_name 20 rfl) ?_
          refine lv_bipush (v := (10)) hx hb (kn_dec tX8_name 21 rfl) (by decide) ?_
          refine lv_icmp_lt (tgt := 48) hx hb (kn_dec tX8_name 22 rfl) (by decide) (fun c7 => ?_) (fun c7 => ?_)
          · have h := h.1 c7
            refine lv_aload_n hx hb (kn_dec tX8_name 25 rfl) rfl (lv_at hl 0 rfl) ?_
            refine kw_getl hx hb hts inX8 hown hK I 0 rfl rfl 6 (by decide) rfl (hts _ q2_105) (kn_dec tX8_name 26 rfl) e_t_6 ?_
            refine kw_getl hx hb hts inX5 hown hK I 1 rfl rfl 8 (by decide) rfl (hts _ q2_42) (kn_dec tX8_name 27 rfl) rfl ?_
            refine lv_aload_n hx hb (kn_dec tX8_name 28 rfl) rfl (lv_at hl 0 rfl) ?_
            refine kw_getl hx hb hts inX8 hown hK I 0 rfl rfl 6 (by decide) rfl (hts _ q2_105) (kn_dec tX8_name 29 rfl) e_t_6 ?_
            refine kw_geti hx hb hts inX5 hown hK I 1 rfl rfl 7 (by decide) rfl (hts _ q2_40) (kn_dec tX8_name 30 rfl) ?_
            refine lv_iload_n hx hb (kn_dec tX8_name 31 rfl) rfl (lv_at hl 1 rfl) ?_
            obtain ⟨hs8, h⟩ := h
            refine kw_iast hx hb hK I 1 rfl 8 10 (List.mem_of_getElem? (i := 1) rfl) ukScene_8 hs8 (kn_dec tX8_name 32 rfl) (fun v_c9 ev_c9 H locs I => ?_)
            have h := h v_c9 ev_c9
            have I : kn_I D tc (kn_A _ s.heap.size) s.heap [(kTin, ad_t, _), (kScene, ad_c, _), (kHill, ad_h, _)] _ _ := I
            refine lv_aload_n hx hb (kn_dec tX8_name 33 rfl) rfl (lv_at hl 0 rfl) ?_
            refine kw_getl hx hb hts inX8 hown hK I 0 rfl rfl 6 (by decide) rfl (hts _ q2_105) (kn_dec tX8_name 34 rfl) e_t_6 ?_
            refine kw_getl hx hb hts inX5 hown hK I 1 rfl rfl 9 (by decide) rfl (hts _ q2_44) (kn_dec tX8_name 35 rfl) rfl ?_
            refine lv_aload_n hx hb (kn_dec tX8_name 36 rfl) rfl (lv_at hl 0 rfl) ?_
            refine kw_getl hx hb hts inX8 hown hK I 0 rfl rfl 6 (by decide) rfl (hts _ q2_105) (kn_dec tX8_name 37 rfl) e_t_6 ?_
            refine kw_geti hx hb hts inX5 hown hK I 1 rfl rfl 7 (by decide) rfl (hts _ q2_40) (kn_dec tX8_name 38 rfl) ?_
            refine lv_iload_n hx hb (kn_dec tX8_name 39 rfl) rfl (lv_at hl 2 rfl) ?_
            obtain ⟨hs10, h⟩ := h
            refine kw_iast hx hb hK I 1 rfl 9 10 (List.mem_of_getElem? (i := 2) rfl) ukScene_9 hs10 (kn_dec tX8_name 40 rfl) (fun v_c11 ev_c11 H locs I => ?_)
            have h := h v_c11 ev_c11
            have I : kn_I D tc (kn_A _ s.heap.size) s.heap [(kTin, ad_t, _), (kScene, ad_c, _), (kHill, ad_h, _)] _ _ := I
            refine lv_aload_n hx hb (kn_dec tX8_name 41 rfl) rfl (lv_at hl 0 rfl) ?_
            refine kw_getl hx hb hts inX8 hown hK I 0 rfl rfl 6 (by decide) rfl (hts _ q2_105) (kn_dec tX8_name 42 rfl) e_t_6 ?_
            refine lv_dup hx hb (kn_dec tX8_name 43 rfl) rfl ?_
            refine kw_geti hx hb hts inX5 hown hK I 1 rfl rfl 7 (by decide) rfl (hts _ q2_40) (kn_dec tX8_name 44 rfl) ?_
            refine lv_iconst (v := (1)) hx hb (kn_dec tX8_name 45 rfl) (by decide) ?_
            refine lv_iadd hx hb (kn_dec tX8_name 46 rfl) ?_
            refine lv_topi (fun x12 ex12 => ?_)
            have h := h x12 ex12
            refine kw_puti hx hb hts inX5 tyX5 tyX5_ok nmX5 hown hK I 1 rfl rfl 7 (by decide) rfl (hts _ q2_40) rfl rfl rfl (kn_dec tX8_name 47 rfl) (fun v_c13 ev_c13 H locs I => ?_)
            have h := h v_c13 ev_c13
            have I : kn_I D tc (kn_A _ s.heap.size) s.heap [(kTin, ad_t, _), (kScene, ad_c, _), (kHill, ad_h, _)] _ _ := I
            refine lv_aload_n hx hb (kn_dec tX8_name 48 rfl) rfl (lv_at hl 0 rfl) ?_
            refine kw_getl hx hb hts inX8 hown hK I 0 rfl rfl 6 (by decide) rfl (hts _ q2_105) (kn_dec tX8_name 49 rfl) e_t_6 ?_
            refine kw_geti hx hb hts inX5 hown hK I 1 rfl rfl 7 (by decide) rfl (hts _ q2_40) (kn_dec tX8_name 50 rfl) ?_
            exact kw_iret hx hb hr hlocks I _ rfl h (kn_dec tX8_name 51 rfl)
          · have h := h.2 c7
            refine lv_bipush (v := (-2)) hx hb (kn_dec tX8_name 23 rfl) (by decide) ?_
            exact kw_iret hx hb hr hlocks I _ rfl h (kn_dec tX8_name 24 rfl)
  · have h := h.2 c1
    refine lv_aload_n hx hb (kn_dec tX8_name 3 rfl) rfl (lv_at hl 0 rfl) ?_
    refine kw_getl hx hb hts inX8 hown hK I 0 rfl rfl 6 (by decide) rfl (hts _ q2_105) (kn_dec tX8_name 4 rfl) e_t_6 ?_
    refine lv_iconst (v := (0)) hx hb (kn_dec tX8_name 5 rfl) (by decide) ?_
    refine kw_puti hx hb hts inX5 tyX5 tyX5_ok nmX5 hown hK I 1 rfl rfl 7 (by decide) rfl (hts _ q2_40) rfl rfl rfl (kn_dec tX8_name 6 rfl) (fun v_c14 ev_c14 H locs I => ?_)
    have h := h v_c14 ev_c14
    have I : kn_I D tc (kn_A _ s.heap.size) s.heap [(kTin, ad_t, _), (kScene, ad_c, _), (kHill, ad_h, _)] _ _ := I
    refine lv_iconst (v := (0)) hx hb (kn_dec tX8_name 7 rfl) (by decide) ?_
    exact kw_iret hx hb hr hlocks I _ rfl h (kn_dec tX8_name 8 rfl)

/-! X8_seed -/
abbrev rmX8_seed : Room := { frames := 0, cells := 0, slots := 0, locals := 0 }
def PX8_seed  (v_t : OV) (v_c : OV) (a1 : Int32) (post : Int32 → OV → Prop) : Prop := ((((0 : Int32)) ≤ a1 → (∀ x2 : Int32, x2 = (v_c.1 2) → (∀ v_c3 : OV, v_c3 = si v_c 2 a1 → post x2 v_c3))) ∧ (¬ ((0 : Int32)) ≤ a1 → post ((-1 : Int32)) v_c))
set_option maxRecDepth 100000 in
set_option maxHeartbeats 1000000 in
theorem ctX8_seed {l : Launch} {D : va_G} {tc : Nat → ClassId} {Z : (Nat → Nat) × (Nat → Nat)}  {ad_t : Nat → Nat} {ad_c : Nat → Nat} {v_t : OV} {v_c : OV} {a1 : Int32} (e_t_6 : ad_t (6 + 1) = ad_c 0)   {post : Int32 → OV → Prop} (h : PX8_seed  v_t v_c a1 post) : CTi l D tc Z yX8_seed (Cond.code yX8_seed cX8_seed 3 (some .int) :: kn_all) rmX8_seed 0 0 [.ref (ad_t 0), .int a1] [(kTin, ad_t, v_t), (kScene, ad_c, v_c)] (fun (u : OV) => [(kTin, ad_t, v_t), (kScene, ad_c, u)]) (fun (r : Int32) (u : OV) => post r u) := by
  refine kn_ofi (cc := cX8_seed) (nL := 3) (ret := (some .int)) (lv := [(0, .ref (ad_t 0)), (1, .int a1)]) (by decide) (Nat.le_of_ble_eq_true rfl) rfl (fun p e s m below meth c ls X I hl _ => ?_)
  obtain ⟨S0, hr, hlocks, hK, hZ, hA⟩ := id X
  obtain ⟨hx, hb, hml, hown, hts⟩ := id S0
  unfold PX8_seed at h
  refine lv_iload_n hx hb (kn_dec tX8_seed 0 rfl) rfl (lv_at hl 1 rfl) ?_
  refine lv_if_ge (tgt := 6) hx hb (kn_dec tX8_seed 1 rfl) (by decide) (fun c1 => ?_) (fun c1 => ?_)
  · have h := h.1 c1
    refine lv_aload_n hx hb (kn_dec tX8_seed 4 rfl) rfl (lv_at hl 0 rfl) ?_
    refine kw_getl hx hb hts inX8 hown hK I 0 rfl rfl 6 (by decide) rfl (hts _ q2_105) (kn_dec tX8_seed 5 rfl) e_t_6 ?_
    refine kw_geti hx hb hts inX5 hown hK I 1 rfl rfl 2 (by decide) rfl (hts _ q2_32) (kn_dec tX8_seed 6 rfl) ?_
    refine lv_topi (fun x2 ex2 => ?_)
    have h := h x2 ex2
    refine lv_istore_n (lv' := [(2, .int _), (0, .ref (ad_t 0)), (1, .int _)]) hx hb (kn_dec tX8_seed 7 rfl) rfl hl (by decide) rfl (fun ls hl => ?_)
    refine lv_aload_n hx hb (kn_dec tX8_seed 8 rfl) rfl (lv_at hl 1 rfl) ?_
    refine kw_getl hx hb hts inX8 hown hK I 0 rfl rfl 6 (by decide) rfl (hts _ q2_105) (kn_dec tX8_seed 9 rfl) e_t_6 ?_
    refine lv_iload_n hx hb (kn_dec tX8_seed 10 rfl) rfl (lv_at hl 2 rfl) ?_
    refine kw_puti hx hb hts inX5 tyX5 tyX5_ok nmX5 hown hK I 1 rfl rfl 2 (by decide) rfl (hts _ q2_32) rfl rfl rfl (kn_dec tX8_seed 11 rfl) (fun v_c3 ev_c3 H locs I => ?_)
    have h := h v_c3 ev_c3
    have I : kn_I D tc (kn_A _ s.heap.size) s.heap [(kTin, ad_t, _), (kScene, ad_c, _)] _ _ := I
    refine lv_iload_n hx hb (kn_dec tX8_seed 12 rfl) rfl (lv_at hl 0 rfl) ?_
    exact kw_iret hx hb hr hlocks I _ rfl h (kn_dec tX8_seed 13 rfl)
  · have h := h.2 c1
    refine lv_iconst (v := (-1)) hx hb (kn_dec tX8_seed 2 rfl) (by decide) ?_
    exact kw_iret hx hb hr hlocks I _ rfl h (kn_dec tX8_seed 3 rfl)

/-! X8_count -/
abbrev rmX8_count : Room := { frames := 1, cells := 0, slots := 0, locals := 22 }
def PX8_count  (v_t : OV) (v_c : OV) (v_h : OV) (v_s : OV) (a1 : Int32) (post : Int32 → Prop) : Prop := ((a1 = (0 : Int32) → post (v_s.1 1)) ∧ (¬ a1 = (0 : Int32) → ((a1 = (1 : Int32) → post (v_h.1 2)) ∧ (¬ a1 = (1 : Int32) → ((a1 = (2 : Int32) → post (v_h.1 3)) ∧ (¬ a1 = (2 : Int32) → ((a1 = (3 : Int32) → post (v_h.1 4)) ∧ (¬ a1 = (3 : Int32) → ((a1 = (4 : Int32) → post (v_h.1 9)) ∧ (¬ a1 = (4 : Int32) → ((a1 = (5 : Int32) → post (v_h.1 11)) ∧ (¬ a1 = (5 : Int32) → ((a1 = (6 : Int32) → post (v_t.1 5)) ∧ (¬ a1 = (6 : Int32) → ((a1 = (7 : Int32) → post (v_c.1 1)) ∧ (¬ a1 = (7 : Int32) → ((a1 = (8 : Int32) → post (v_s.1 0)) ∧ (¬ a1 = (8 : Int32) → ((a1 = (9 : Int32) → post (v_s.1 2)) ∧ (¬ a1 = (9 : Int32) → ((a1 = (10 : Int32) → (PX6_finderBits v_s (fun r12 => post r12))) ∧ (¬ a1 = (10 : Int32) → ((a1 = (11 : Int32) → (PX0_walkersCome v_h (v_s.1 0) (fun r15 => ((r15 = ((0 : Int32)) → post ((0 : Int32))) ∧ (¬ r15 = ((0 : Int32)) → post ((1 : Int32))))))) ∧ (¬ a1 = (11 : Int32) → ((a1 = (12 : Int32) → post (v_c.1 7)) ∧ (¬ a1 = (12 : Int32) → ((a1 = (13 : Int32) → post (v_c.1 6)) ∧ (¬ a1 = (13 : Int32) → ((a1 = (14 : Int32) → post (v_c.1 2)) ∧ (¬ a1 = (14 : Int32) → ((a1 = (15 : Int32) → post (v_t.1 1)) ∧ (¬ a1 = (15 : Int32) → post ((-1 : Int32))))))))))))))))))))))))))))))))))
set_option maxRecDepth 100000 in
set_option maxHeartbeats 1000000 in
theorem ctX8_count {l : Launch} {D : va_G} {tc : Nat → ClassId} {Z : (Nat → Nat) × (Nat → Nat)}  {ad_t : Nat → Nat} {ad_c : Nat → Nat} {ad_h : Nat → Nat} {ad_s : Nat → Nat} {v_t : OV} {v_c : OV} {v_h : OV} {v_s : OV} {a1 : Int32} (e_t_6 : ad_t (6 + 1) = ad_c 0) (e_c_0 : ad_c (0 + 1) = ad_h 0) (e_c_3 : ad_c (3 + 1) = ad_s 0)   {post : Int32 → Prop} (h : PX8_count  v_t v_c v_h v_s a1 post) : CTi l D tc Z yX8_count (Cond.code yX8_count cX8_count 2 (some .int) :: kn_all) rmX8_count 0 0 [.ref (ad_t 0), .int a1] [(kTin, ad_t, v_t), (kScene, ad_c, v_c), (kHill, ad_h, v_h), (kState, ad_s, v_s)] (fun (u : Unit) => [(kTin, ad_t, v_t), (kScene, ad_c, v_c), (kHill, ad_h, v_h), (kState, ad_s, v_s)]) (fun (r : Int32) (u : Unit) => post r) := by
  refine kn_ofi (cc := cX8_count) (nL := 2) (ret := (some .int)) (lv := [(0, .ref (ad_t 0)), (1, .int a1)]) (by decide) (Nat.le_of_ble_eq_true rfl) rfl (fun p e s m below meth c ls X I hl _ => ?_)
  obtain ⟨S0, hr, hlocks, hK, hZ, hA⟩ := id X
  obtain ⟨hx, hb, hml, hown, hts⟩ := id S0
  unfold PX8_count at h
  refine lv_iload_n hx hb (kn_dec tX8_count 0 rfl) rfl (lv_at hl 1 rfl) ?_
  rcases Classical.em (a1 = (0 : Int32)) with c1 | c1
  · have h := h.1 c1
    refine lv_tableIn (off := 79) (tgt := 80) hx hb (kn_dec tX8_count 1 rfl) (by rw [c1]; decide) (by rw [c1]; decide) (by rw [c1]; rfl) (by decide) ?_
    refine lv_aload_n hx hb (kn_dec tX8_count 2 rfl) rfl (lv_at hl 0 rfl) ?_
    refine kw_getl hx hb hts inX8 hown hK I 0 rfl rfl 6 (by decide) rfl (hts _ q2_105) (kn_dec tX8_count 3 rfl) e_t_6 ?_
    refine kw_getl hx hb hts inX5 hown hK I 1 rfl rfl 3 (by decide) rfl (hts _ q2_34) (kn_dec tX8_count 4 rfl) e_c_3 ?_
    refine kw_geti hx hb hts inX6 hown hK I 3 rfl rfl 1 (by decide) rfl (hts _ q1_224) (kn_dec tX8_count 5 rfl) ?_
    exact kw_iret hx hb hr hlocks I () rfl h (kn_dec tX8_count 6 rfl)
  · have h := h.2 c1
    rcases Classical.em (a1 = (1 : Int32)) with c2 | c2
    · have h := h.1 c2
      refine lv_tableIn (off := 90) (tgt := 91) hx hb (kn_dec tX8_count 1 rfl) (by rw [c2]; decide) (by rw [c2]; decide) (by rw [c2]; rfl) (by decide) ?_
      refine lv_aload_n hx hb (kn_dec tX8_count 7 rfl) rfl (lv_at hl 0 rfl) ?_
      refine kw_getl hx hb hts inX8 hown hK I 0 rfl rfl 6 (by decide) rfl (hts _ q2_105) (kn_dec tX8_count 8 rfl) e_t_6 ?_
      refine kw_getl hx hb hts inX5 hown hK I 1 rfl rfl 0 (by decide) rfl (hts _ q2_28) (kn_dec tX8_count 9 rfl) e_c_0 ?_
      refine kw_geti hx hb hts inX0 hown hK I 2 rfl rfl 2 (by decide) rfl (hts _ q1_125) (kn_dec tX8_count 10 rfl) ?_
      exact kw_iret hx hb hr hlocks I () rfl h (kn_dec tX8_count 11 rfl)
    · have h := h.2 c2
      rcases Classical.em (a1 = (2 : Int32)) with c3 | c3
      · have h := h.1 c3
        refine lv_tableIn (off := 101) (tgt := 102) hx hb (kn_dec tX8_count 1 rfl) (by rw [c3]; decide) (by rw [c3]; decide) (by rw [c3]; rfl) (by decide) ?_
        refine lv_aload_n hx hb (kn_dec tX8_count 12 rfl) rfl (lv_at hl 0 rfl) ?_
        refine kw_getl hx hb hts inX8 hown hK I 0 rfl rfl 6 (by decide) rfl (hts _ q2_105) (kn_dec tX8_count 13 rfl) e_t_6 ?_
        refine kw_getl hx hb hts inX5 hown hK I 1 rfl rfl 0 (by decide) rfl (hts _ q2_28) (kn_dec tX8_count 14 rfl) e_c_0 ?_
        refine kw_geti hx hb hts inX0 hown hK I 2 rfl rfl 3 (by decide) rfl (hts _ q1_127) (kn_dec tX8_count 15 rfl) ?_
        exact kw_iret hx hb hr hlocks I () rfl h (kn_dec tX8_count 16 rfl)
      · have h := h.2 c3
        rcases Classical.em (a1 = (3 : Int32)) with c4 | c4
        · have h := h.1 c4
          refine lv_tableIn (off := 112) (tgt := 113) hx hb (kn_dec tX8_count 1 rfl) (by rw [c4]; decide) (by rw [c4]; decide) (by rw [c4]; rfl) (by decide) ?_
          refine lv_aload_n hx hb (kn_dec tX8_count 17 rfl) rfl (lv_at hl 0 rfl) ?_
          refine kw_getl hx hb hts inX8 hown hK I 0 rfl rfl 6 (by decide) rfl (hts _ q2_105) (kn_dec tX8_count 18 rfl) e_t_6 ?_
          refine kw_getl hx hb hts inX5 hown hK I 1 rfl rfl 0 (by decide) rfl (hts _ q2_28) (kn_dec tX8_count 19 rfl) e_c_0 ?_
          refine kw_geti hx hb hts inX0 hown hK I 2 rfl rfl 4 (by decide) rfl (hts _ q1_131) (kn_dec tX8_count 20 rfl) ?_
          exact kw_iret hx hb hr hlocks I () rfl h (kn_dec tX8_count 21 rfl)
        · have h := h.2 c4
          rcases Classical.em (a1 = (4 : Int32)) with c5 | c5
          · have h := h.1 c5
            refine lv_tableIn (off := 123) (tgt := 124) hx hb (kn_dec tX8_count 1 rfl) (by rw [c5]; decide) (by rw [c5]; decide) (by rw [c5]; rfl) (by decide) ?_
            refine lv_aload_n hx hb (kn_dec tX8_count 22 rfl) rfl (lv_at hl 0 rfl) ?_
            refine kw_getl hx hb hts inX8 hown hK I 0 rfl rfl 6 (by decide) rfl (hts _ q2_105) (kn_dec tX8_count 23 rfl) e_t_6 ?_
            refine kw_getl hx hb hts inX5 hown hK I 1 rfl rfl 0 (by decide) rfl (hts _ q2_28) (kn_dec tX8_count 24 rfl) e_c_0 ?_
            refine kw_geti hx hb hts inX0 hown hK I 2 rfl rfl 9 (by decide) rfl (hts _ q1_150) (kn_dec tX8_count 25 rfl) ?_
            exact kw_iret hx hb hr hlocks I () rfl h (kn_dec tX8_count 26 rfl)
          · have h := h.2 c5
            rcases Classical.em (a1 = (5 : Int32)) with c6 | c6
            · have h := h.1 c6
              refine lv_tableIn (off := 134) (tgt := 135) hx hb (kn_dec tX8_count 1 rfl) (by rw [c6]; decide) (by rw [c6]; decide) (by rw [c6]; rfl) (by decide) ?_
              refine lv_aload_n hx hb (kn_dec tX8_count 27 rfl) rfl (lv_at hl 0 rfl) ?_
              refine kw_getl hx hb hts inX8 hown hK I 0 rfl rfl 6 (by decide) rfl (hts _ q2_105) (kn_dec tX8_count 28 rfl) e_t_6 ?_
              refine kw_getl hx hb hts inX5 hown hK I 1 rfl rfl 0 (by decide) rfl (hts _ q2_28) (kn_dec tX8_count 29 rfl) e_c_0 ?_
              refine kw_geti hx hb hts inX0 hown hK I 2 rfl rfl 11 (by decide) rfl (hts _ q1_156) (kn_dec tX8_count 30 rfl) ?_
              exact kw_iret hx hb hr hlocks I () rfl h (kn_dec tX8_count 31 rfl)
            · have h := h.2 c6
              rcases Classical.em (a1 = (6 : Int32)) with c7 | c7
              · have h := h.1 c7
                refine lv_tableIn (off := 145) (tgt := 146) hx hb (kn_dec tX8_count 1 rfl) (by rw [c7]; decide) (by rw [c7]; decide) (by rw [c7]; rfl) (by decide) ?_
                refine lv_aload_n hx hb (kn_dec tX8_count 32 rfl) rfl (lv_at hl 0 rfl) ?_
                refine kw_geti hx hb hts inX8 hown hK I 0 rfl rfl 5 (by decide) rfl (hts _ q2_104) (kn_dec tX8_count 33 rfl) ?_
                exact kw_iret hx hb hr hlocks I () rfl h (kn_dec tX8_count 34 rfl)
              · have h := h.2 c7
                rcases Classical.em (a1 = (7 : Int32)) with c8 | c8
                · have h := h.1 c8
                  refine lv_tableIn (off := 150) (tgt := 151) hx hb (kn_dec tX8_count 1 rfl) (by rw [c8]; decide) (by rw [c8]; decide) (by rw [c8]; rfl) (by decide) ?_
                  refine lv_aload_n hx hb (kn_dec tX8_count 35 rfl) rfl (lv_at hl 0 rfl) ?_
                  refine kw_getl hx hb hts inX8 hown hK I 0 rfl rfl 6 (by decide) rfl (hts _ q2_105) (kn_dec tX8_count 36 rfl) e_t_6 ?_
                  refine kw_geti hx hb hts inX5 hown hK I 1 rfl rfl 1 (by decide) rfl (hts _ q2_30) (kn_dec tX8_count 37 rfl) ?_
                  exact kw_iret hx hb hr hlocks I () rfl h (kn_dec tX8_count 38 rfl)
                · have h := h.2 c8
                  rcases Classical.em (a1 = (8 : Int32)) with c9 | c9
                  · have h := h.1 c9
                    refine lv_tableIn (off := 158) (tgt := 159) hx hb (kn_dec tX8_count 1 rfl) (by rw [c9]; decide) (by rw [c9]; decide) (by rw [c9]; rfl) (by decide) ?_
                    refine lv_aload_n hx hb (kn_dec tX8_count 39 rfl) rfl (lv_at hl 0 rfl) ?_
                    refine kw_getl hx hb hts inX8 hown hK I 0 rfl rfl 6 (by decide) rfl (hts _ q2_105) (kn_dec tX8_count 40 rfl) e_t_6 ?_
                    refine kw_getl hx hb hts inX5 hown hK I 1 rfl rfl 3 (by decide) rfl (hts _ q2_34) (kn_dec tX8_count 41 rfl) e_c_3 ?_
                    refine kw_geti hx hb hts inX6 hown hK I 3 rfl rfl 0 (by decide) rfl (hts _ q1_221) (kn_dec tX8_count 42 rfl) ?_
                    exact kw_iret hx hb hr hlocks I () rfl h (kn_dec tX8_count 43 rfl)
                  · have h := h.2 c9
                    rcases Classical.em (a1 = (9 : Int32)) with c10 | c10
                    · have h := h.1 c10
                      refine lv_tableIn (off := 169) (tgt := 170) hx hb (kn_dec tX8_count 1 rfl) (by rw [c10]; decide) (by rw [c10]; decide) (by rw [c10]; rfl) (by decide) ?_
                      refine lv_aload_n hx hb (kn_dec tX8_count 44 rfl) rfl (lv_at hl 0 rfl) ?_
                      refine kw_getl hx hb hts inX8 hown hK I 0 rfl rfl 6 (by decide) rfl (hts _ q2_105) (kn_dec tX8_count 45 rfl) e_t_6 ?_
                      refine kw_getl hx hb hts inX5 hown hK I 1 rfl rfl 3 (by decide) rfl (hts _ q2_34) (kn_dec tX8_count 46 rfl) e_c_3 ?_
                      refine kw_geti hx hb hts inX6 hown hK I 3 rfl rfl 2 (by decide) rfl (hts _ q1_227) (kn_dec tX8_count 47 rfl) ?_
                      exact kw_iret hx hb hr hlocks I () rfl h (kn_dec tX8_count 48 rfl)
                    · have h := h.2 c10
                      rcases Classical.em (a1 = (10 : Int32)) with c11 | c11
                      · have h := h.1 c11
                        refine lv_tableIn (off := 180) (tgt := 181) hx hb (kn_dec tX8_count 1 rfl) (by rw [c11]; decide) (by rw [c11]; decide) (by rw [c11]; rfl) (by decide) ?_
                        refine lv_aload_n hx hb (kn_dec tX8_count 49 rfl) rfl (lv_at hl 0 rfl) ?_
                        refine kw_getl hx hb hts inX8 hown hK I 0 rfl rfl 6 (by decide) rfl (hts _ q2_105) (kn_dec tX8_count 50 rfl) e_t_6 ?_
                        refine kw_getl hx hb hts inX5 hown hK I 1 rfl rfl 3 (by decide) rfl (hts _ q2_34) (kn_dec tX8_count 51 rfl) e_c_3 ?_
                        refine kw_calli (wc := [(kState, ad_s, _)]) (wr := [(kTin, ad_t, _), (kScene, ad_c, _), (kHill, ad_h, _)]) I hA [3] [0, 1, 2] rfl rfl (by decide) (by decide) (kn_runV (As := []) S0 hK hZ hA I ((ctX6_finderBits h).met _) (kn_cwV 0 hts q4_180 q3_200 q3_201 q1_8 q3_202 rfl rfl (by decide +kernel) ⟨(Nat.le_of_ble_eq_true rfl), (Nat.le_of_ble_eq_true rfl)⟩) [3] rfl (by decide) 3 rfl rfl rfl rfl hl.1 rfl (Nat.le_of_ble_eq_true rfl) (kn_dec tX8_count 52 rfl) ⟨(Nat.le_of_ble_eq_true rfl), (Nat.le_of_ble_eq_true rfl)⟩) (fun r12 u13 H locs h I => ?_)
                        have I : kn_I D tc (kn_A _ s.heap.size) s.heap [(kTin, ad_t, _), (kScene, ad_c, _), (kHill, ad_h, _), (kState, ad_s, _)] _ _ := I
                        exact kw_iret hx hb hr hlocks I () rfl h (kn_dec tX8_count 53 rfl)
                      · have h := h.2 c11
                        rcases Classical.em (a1 = (11 : Int32)) with c14 | c14
                        · have h := h.1 c14
                          refine lv_tableIn (off := 191) (tgt := 192) hx hb (kn_dec tX8_count 1 rfl) (by rw [c14]; decide) (by rw [c14]; decide) (by rw [c14]; rfl) (by decide) ?_
                          refine lv_aload_n hx hb (kn_dec tX8_count 54 rfl) rfl (lv_at hl 0 rfl) ?_
                          refine kw_getl hx hb hts inX8 hown hK I 0 rfl rfl 6 (by decide) rfl (hts _ q2_105) (kn_dec tX8_count 55 rfl) e_t_6 ?_
                          refine kw_getl hx hb hts inX5 hown hK I 1 rfl rfl 0 (by decide) rfl (hts _ q2_28) (kn_dec tX8_count 56 rfl) e_c_0 ?_
                          refine lv_aload_n hx hb (kn_dec tX8_count 57 rfl) rfl (lv_at hl 0 rfl) ?_
                          refine kw_getl hx hb hts inX8 hown hK I 0 rfl rfl 6 (by decide) rfl (hts _ q2_105) (kn_dec tX8_count 58 rfl) e_t_6 ?_
                          refine kw_getl hx hb hts inX5 hown hK I 1 rfl rfl 3 (by decide) rfl (hts _ q2_34) (kn_dec tX8_count 59 rfl) e_c_3 ?_
                          refine kw_geti hx hb hts inX6 hown hK I 3 rfl rfl 0 (by decide) rfl (hts _ q1_221) (kn_dec tX8_count 60 rfl) ?_
                          refine kw_calli (wc := [(kHill, ad_h, _)]) (wr := [(kTin, ad_t, _), (kScene, ad_c, _), (kState, ad_s, _)]) I hA [2] [0, 1, 3] rfl rfl (by decide) (by decide) (kn_runV (As := [.int _]) S0 hK hZ hA I ((ctX0_walkersCome h).met _) (kn_cwV 1 hts q4_181 q4_10 q4_11 q1_7 q4_12 rfl rfl (by decide +kernel) ⟨(Nat.le_of_ble_eq_true rfl), (Nat.le_of_ble_eq_true rfl)⟩) [2] rfl (by decide) 2 rfl rfl rfl rfl hl.1 rfl (Nat.le_of_ble_eq_true rfl) (kn_dec tX8_count 61 rfl) ⟨(Nat.le_of_ble_eq_true rfl), (Nat.le_of_ble_eq_true rfl)⟩) (fun r15 u16 H locs h I => ?_)
                          obtain ⟨hz_r15, h⟩ := h
                          have I : kn_I D tc (kn_A _ s.heap.size) s.heap [(kTin, ad_t, _), (kScene, ad_c, _), (kHill, ad_h, _), (kState, ad_s, _)] _ _ := I.sub [0, 1, 3, 2] (by decide) rfl
                          refine lv_if_eq (tgt := 219) hx hb (kn_dec tX8_count 62 rfl) (by decide) (fun c17 => ?_) (fun c17 => ?_)
                          · have h := h.1 c17
                            refine lv_iconst (v := (0)) hx hb (kn_dec tX8_count 65 rfl) (by decide) ?_
                            exact kw_iret hx hb hr hlocks I () rfl h (kn_dec tX8_count 66 rfl)
                          · have h := h.2 c17
                            refine lv_iconst (v := (1)) hx hb (kn_dec tX8_count 63 rfl) (by decide) ?_
                            refine lv_goto (tgt := 220) hx hb (kn_dec tX8_count 64 rfl) (by decide) ?_
                            exact kw_iret hx hb hr hlocks I () rfl h (kn_dec tX8_count 66 rfl)
                        · have h := h.2 c14
                          rcases Classical.em (a1 = (12 : Int32)) with c18 | c18
                          · have h := h.1 c18
                            refine lv_tableIn (off := 220) (tgt := 221) hx hb (kn_dec tX8_count 1 rfl) (by rw [c18]; decide) (by rw [c18]; decide) (by rw [c18]; rfl) (by decide) ?_
                            refine lv_aload_n hx hb (kn_dec tX8_count 67 rfl) rfl (lv_at hl 0 rfl) ?_
                            refine kw_getl hx hb hts inX8 hown hK I 0 rfl rfl 6 (by decide) rfl (hts _ q2_105) (kn_dec tX8_count 68 rfl) e_t_6 ?_
                            refine kw_geti hx hb hts inX5 hown hK I 1 rfl rfl 7 (by decide) rfl (hts _ q2_40) (kn_dec tX8_count 69 rfl) ?_
                            exact kw_iret hx hb hr hlocks I () rfl h (kn_dec tX8_count 70 rfl)
                          · have h := h.2 c18
                            rcases Classical.em (a1 = (13 : Int32)) with c19 | c19
                            · have h := h.1 c19
                              refine lv_tableIn (off := 228) (tgt := 229) hx hb (kn_dec tX8_count 1 rfl) (by rw [c19]; decide) (by rw [c19]; decide) (by rw [c19]; rfl) (by decide) ?_
                              refine lv_aload_n hx hb (kn_dec tX8_count 71 rfl) rfl (lv_at hl 0 rfl) ?_
                              refine kw_getl hx hb hts inX8 hown hK I 0 rfl rfl 6 (by decide) rfl (hts _ q2_105) (kn_dec tX8_count 72 rfl) e_t_6 ?_
                              refine kw_geti hx hb hts inX5 hown hK I 1 rfl rfl 6 (by decide) rfl (hts _ q2_38) (kn_dec tX8_count 73 rfl) ?_
                              exact kw_iret hx hb hr hlocks I () rfl h (kn_dec tX8_count 74 rfl)
                            · have h := h.2 c19
                              rcases Classical.em (a1 = (14 : Int32)) with c20 | c20
                              · have h := h.1 c20
                                refine lv_tableIn (off := 236) (tgt := 237) hx hb (kn_dec tX8_count 1 rfl) (by rw [c20]; decide) (by rw [c20]; decide) (by rw [c20]; rfl) (by decide) ?_
                                refine lv_aload_n hx hb (kn_dec tX8_count 75 rfl) rfl (lv_at hl 0 rfl) ?_
                                refine kw_getl hx hb hts inX8 hown hK I 0 rfl rfl 6 (by decide) rfl (hts _ q2_105) (kn_dec tX8_count 76 rfl) e_t_6 ?_
                                refine kw_geti hx hb hts inX5 hown hK I 1 rfl rfl 2 (by decide) rfl (hts _ q2_32) (kn_dec tX8_count 77 rfl) ?_
                                exact kw_iret hx hb hr hlocks I () rfl h (kn_dec tX8_count 78 rfl)
                              · have h := h.2 c20
                                rcases Classical.em (a1 = (15 : Int32)) with c21 | c21
                                · have h := h.1 c21
                                  refine lv_tableIn (off := 244) (tgt := 245) hx hb (kn_dec tX8_count 1 rfl) (by rw [c21]; decide) (by rw [c21]; decide) (by rw [c21]; rfl) (by decide) ?_
                                  refine lv_aload_n hx hb (kn_dec tX8_count 79 rfl) rfl (lv_at hl 0 rfl) ?_
                                  refine kw_geti hx hb hts inX8 hown hK I 0 rfl rfl 1 (by decide) rfl (hts _ q2_100) (kn_dec tX8_count 80 rfl) ?_
                                  exact kw_iret hx hb hr hlocks I () rfl h (kn_dec tX8_count 81 rfl)
                                · have h := h.2 c21
                                  refine lv_tableOut (tgt := 250) hx hb (kn_dec tX8_count 1 rfl) (by have z0 := kn_nei (k := 0) c1 (by decide); have z1 := kn_nei (k := 1) c2 (by decide); have z2 := kn_nei (k := 2) c3 (by decide); have z3 := kn_nei (k := 3) c4 (by decide); have z4 := kn_nei (k := 4) c5 (by decide); have z5 := kn_nei (k := 5) c6 (by decide); have z6 := kn_nei (k := 6) c7 (by decide); have z7 := kn_nei (k := 7) c8 (by decide); have z8 := kn_nei (k := 8) c9 (by decide); have z9 := kn_nei (k := 9) c10 (by decide); have z10 := kn_nei (k := 10) c11 (by decide); have z11 := kn_nei (k := 11) c14 (by decide); have z12 := kn_nei (k := 12) c18 (by decide); have z13 := kn_nei (k := 13) c19 (by decide); have z14 := kn_nei (k := 14) c20 (by decide); have z15 := kn_nei (k := 15) c21 (by decide); omega) (by decide) ?_
                                  refine lv_iconst (v := (-1)) hx hb (kn_dec tX8_count 82 rfl) (by decide) ?_
                                  exact kw_iret hx hb hr hlocks I () rfl h (kn_dec tX8_count 83 rfl)

/-! X8_hide -/
abbrev rmX8_hide : Room := { frames := 3, cells := 0, slots := 0, locals := 105 }
def PX8_hide  (v_t : OV) (v_c : OV) (v_h : OV) (v_s : OV) (v_pp : (Nat → OV)) (a1 : Int32) (post : Int32 → OV → OV → (Nat → OV) → Prop) : Prop := (PX8_hasStone v_t v_c v_h a1 (fun r1 => ((r1 = ((0 : Int32)) → post ((-2 : Int32)) v_c v_s v_pp) ∧ (¬ r1 = ((0 : Int32)) → ((¬ (v_s.1 2) = a1 → (PX5_remember v_c v_s v_pp (fun v_c5 v_pp6 => (∀ x8 : Int32, x8 = (v_s.1 2) → (∀ v_s9 : OV, v_s9 = si v_s 2 a1 → post x8 v_c5 v_s9 v_pp6))))) ∧ ((v_s.1 2) = a1 → post ((-2 : Int32)) v_c v_s v_pp))))))
set_option maxRecDepth 100000 in
set_option maxHeartbeats 1000000 in
theorem ctX8_hide {l : Launch} {D : va_G} {tc : Nat → ClassId} {Z : (Nat → Nat) × (Nat → Nat)}  {ad_t : Nat → Nat} {ad_c : Nat → Nat} {ad_h : Nat → Nat} {ad_s : Nat → Nat} {ad_pp : Nat → Nat → Nat} {v_t : OV} {v_c : OV} {v_h : OV} {v_s : OV} {v_pp : (Nat → OV)} {a1 : Int32} (e_t_6 : ad_t (6 + 1) = ad_c 0) (e_c_0 : ad_c (0 + 1) = ad_h 0) (e_c_3 : ad_c (3 + 1) = ad_s 0) (p_c_4 : ∀ i, i < 20 → kn_q ad_c 4 i = some (ad_pp i 0))   {post : Int32 → OV → OV → (Nat → OV) → Prop} (h : PX8_hide  v_t v_c v_h v_s v_pp a1 post) : CTi l D tc Z yX8_hide (Cond.code yX8_hide cX8_hide 3 (some .int) :: kn_all) rmX8_hide 0 0 [.ref (ad_t 0), .int a1] (List.flatten [[(kTin, ad_t, v_t)], [(kScene, ad_c, v_c)], [(kHill, ad_h, v_h)], [(kState, ad_s, v_s)], kn_pool kState 20 ad_pp v_pp]) (fun (u : OV × OV × (Nat → OV)) => (List.flatten [[(kTin, ad_t, v_t)], [(kScene, ad_c, u.1)], [(kHill, ad_h, v_h)], [(kState, ad_s, u.2.1)], kn_pool kState 20 ad_pp u.2.2])) (fun (r : Int32) (u : OV × OV × (Nat → OV)) => post r u.1 u.2.1 u.2.2) := by
  refine kn_ofi (cc := cX8_hide) (nL := 3) (ret := (some .int)) (lv := [(0, .ref (ad_t 0)), (1, .int a1)]) (by decide) (Nat.le_of_ble_eq_true rfl) rfl (fun p e s m below meth c ls X I hl _ => ?_)
  obtain ⟨S0, hr, hlocks, hK, hZ, hA⟩ := id X
  obtain ⟨hx, hb, hml, hown, hts⟩ := id S0
  unfold PX8_hide at h
  refine lv_aload_n hx hb (kn_dec tX8_hide 0 rfl) rfl (lv_at hl 0 rfl) ?_
  refine lv_iload_n hx hb (kn_dec tX8_hide 1 rfl) rfl (lv_at hl 1 rfl) ?_
  have I : kn_I D tc (kn_A _ s.heap.size) s.heap ([(kTin, ad_t, _), (kScene, ad_c, _), (kHill, ad_h, _)] ++ (List.flatten [[(kState, ad_s, _)], kn_pool kState 20 ad_pp _])) _ _ := I.perm (kn_segA (segs := [[(kTin, ad_t, _)], [(kScene, ad_c, _)], [(kHill, ad_h, _)], [(kState, ad_s, _)], kn_pool kState 20 ad_pp _]) (sC := [[(kTin, ad_t, _)], [(kScene, ad_c, _)], [(kHill, ad_h, _)]]) (sR := [[(kState, ad_s, _)], kn_pool kState 20 ad_pp _]) [0, 1, 2, 3, 4] rfl rfl)
  refine kw_calli (wc := [(kTin, ad_t, _), (kScene, ad_c, _), (kHill, ad_h, _)]) (wr := (List.flatten [[(kState, ad_s, _)], kn_pool kState 20 ad_pp _])) I hA (kn_pl1 _ _) (kn_pl2 _ _) (kn_pl1_ok _ _) (kn_pl2_ok _ _) (kn_pl2_nd _ _) (kn_pl_dis _ _) (kn_runV (As := [.int _]) S0 hK hZ hA I ((ctX8_hasStone e_t_6 e_c_0 h).met _) (kn_cwV 1 hts q3_142 q3_144 q0_12 q1_1 q3_145 rfl rfl (by decide +kernel) ⟨(Nat.le_of_ble_eq_true rfl), (Nat.le_of_ble_eq_true rfl)⟩) (kn_pl1 _ _) (kn_pl1_ok _ _) (kn_pl1_nd _ _) 0 rfl rfl rfl rfl hl.1 rfl (Nat.le_of_ble_eq_true rfl) (kn_dec tX8_hide 2 rfl) ⟨(Nat.le_of_ble_eq_true rfl), (Nat.le_of_ble_eq_true rfl)⟩) (fun r1 u2 H locs h I => ?_)
  obtain ⟨hz_r1, h⟩ := h
  have I : kn_I D tc (kn_A _ s.heap.size) s.heap (List.flatten [[(kTin, ad_t, _)], [(kScene, ad_c, _)], [(kHill, ad_h, _)], [(kState, ad_s, _)], kn_pool kState 20 ad_pp _]) _ _ := I.perm (kn_segB (sC := [[(kState, ad_s, _)], kn_pool kState 20 ad_pp _]) (sR := [[(kTin, ad_t, _)], [(kScene, ad_c, _)], [(kHill, ad_h, _)]]) (segs := [[(kTin, ad_t, _)], [(kScene, ad_c, _)], [(kHill, ad_h, _)], [(kState, ad_s, _)], kn_pool kState 20 ad_pp _]) [2, 3, 4, 0, 1] rfl rfl)
  refine lv_if_eq (tgt := 22) hx hb (kn_dec tX8_hide 3 rfl) (by decide) (fun c3 => ?_) (fun c3 => ?_)
  · have h := h.1 c3
    refine lv_bipush (v := (-2)) hx hb (kn_dec tX8_hide 10 rfl) (by decide) ?_
    exact kw_iret hx hb hr hlocks I (v_c, v_s, v_pp) rfl h (kn_dec tX8_hide 11 rfl)
  · have h := h.2 c3
    refine lv_aload_n hx hb (kn_dec tX8_hide 4 rfl) rfl (lv_at hl 0 rfl) ?_
    refine kw_getl hx hb hts inX8 hown hK I 0 rfl rfl 6 (by decide) rfl (hts _ q2_105) (kn_dec tX8_hide 5 rfl) e_t_6 ?_
    refine kw_getl hx hb hts inX5 hown hK I 1 rfl rfl 3 (by decide) rfl (hts _ q2_34) (kn_dec tX8_hide 6 rfl) e_c_3 ?_
    refine kw_geti hx hb hts inX6 hown hK I 3 rfl rfl 2 (by decide) rfl (hts _ q1_227) (kn_dec tX8_hide 7 rfl) ?_
    refine lv_iload_n hx hb (kn_dec tX8_hide 8 rfl) rfl (lv_at hl 1 rfl) ?_
    refine lv_icmp_ne (tgt := 25) hx hb (kn_dec tX8_hide 9 rfl) (by decide) (fun c4 => ?_) (fun c4 => ?_)
    · have h := h.1 c4
      refine lv_aload_n hx hb (kn_dec tX8_hide 12 rfl) rfl (lv_at hl 0 rfl) ?_
      refine kw_getl hx hb hts inX8 hown hK I 0 rfl rfl 6 (by decide) rfl (hts _ q2_105) (kn_dec tX8_hide 13 rfl) e_t_6 ?_
      have I : kn_I D tc (kn_A _ s.heap.size) s.heap ((List.flatten [[(kScene, ad_c, _)], [(kState, ad_s, _)], kn_pool kState 20 ad_pp _]) ++ (List.flatten [[(kTin, ad_t, _)], [(kHill, ad_h, _)]])) _ _ := I.perm (kn_segA (segs := [[(kTin, ad_t, _)], [(kScene, ad_c, _)], [(kHill, ad_h, _)], [(kState, ad_s, _)], kn_pool kState 20 ad_pp _]) (sC := [[(kScene, ad_c, _)], [(kState, ad_s, _)], kn_pool kState 20 ad_pp _]) (sR := [[(kTin, ad_t, _)], [(kHill, ad_h, _)]]) [1, 3, 4, 0, 2] rfl rfl)
      refine kw_callv (wc := (List.flatten [[(kScene, ad_c, _)], [(kState, ad_s, _)], kn_pool kState 20 ad_pp _])) (wr := (List.flatten [[(kTin, ad_t, _)], [(kHill, ad_h, _)]])) I hA (kn_pl1 _ _) (kn_pl2 _ _) (kn_pl1_ok _ _) (kn_pl2_ok _ _) (kn_pl2_nd _ _) (kn_pl_dis _ _) (kn_runV (As := []) S0 hK hZ hA I ((ctX5_remember e_c_3 p_c_4 h).met _) (kn_cwV 0 hts q3_166 q3_167 q3_168 q1_6 q3_169 rfl rfl (by decide +kernel) ⟨(Nat.le_of_ble_eq_true rfl), (Nat.le_of_ble_eq_true rfl)⟩) (kn_pl1 _ _) (kn_pl1_ok _ _) (kn_pl1_nd _ _) 0 rfl rfl rfl rfl hl.1 rfl (Nat.le_of_ble_eq_true rfl) (kn_dec tX8_hide 14 rfl) ⟨(Nat.le_of_ble_eq_true rfl), (Nat.le_of_ble_eq_true rfl)⟩) (fun u7 H locs h I => ?_)
      have I : kn_I D tc (kn_A _ s.heap.size) s.heap (List.flatten [[(kTin, ad_t, _)], [(kScene, ad_c, _)], [(kHill, ad_h, _)], [(kState, ad_s, _)], kn_pool kState 20 ad_pp _]) _ _ := I.perm (kn_segB (sC := [[(kTin, ad_t, _)], [(kHill, ad_h, _)]]) (sR := [[(kScene, ad_c, _)], [(kState, ad_s, _)], kn_pool kState 20 ad_pp _]) (segs := [[(kTin, ad_t, _)], [(kScene, ad_c, _)], [(kHill, ad_h, _)], [(kState, ad_s, _)], kn_pool kState 20 ad_pp _]) [0, 2, 1, 3, 4] rfl rfl)
      refine lv_aload_n hx hb (kn_dec tX8_hide 15 rfl) rfl (lv_at hl 0 rfl) ?_
      refine kw_getl hx hb hts inX8 hown hK I 0 rfl rfl 6 (by decide) rfl (hts _ q2_105) (kn_dec tX8_hide 16 rfl) e_t_6 ?_
      refine kw_getl hx hb hts inX5 hown hK I 1 rfl rfl 3 (by decide) rfl (hts _ q2_34) (kn_dec tX8_hide 17 rfl) e_c_3 ?_
      refine kw_geti hx hb hts inX6 hown hK I 3 rfl rfl 2 (by decide) rfl (hts _ q1_227) (kn_dec tX8_hide 18 rfl) ?_
      refine lv_topi (fun x8 ex8 => ?_)
      have h := h x8 ex8
      refine lv_istore_n (lv' := [(2, .int _), (0, .ref (ad_t 0)), (1, .int _)]) hx hb (kn_dec tX8_hide 19 rfl) rfl hl (by decide) rfl (fun ls hl => ?_)
      refine lv_aload_n hx hb (kn_dec tX8_hide 20 rfl) rfl (lv_at hl 1 rfl) ?_
      refine kw_getl hx hb hts inX8 hown hK I 0 rfl rfl 6 (by decide) rfl (hts _ q2_105) (kn_dec tX8_hide 21 rfl) e_t_6 ?_
      refine kw_getl hx hb hts inX5 hown hK I 1 rfl rfl 3 (by decide) rfl (hts _ q2_34) (kn_dec tX8_hide 22 rfl) e_c_3 ?_
      refine lv_iload_n hx hb (kn_dec tX8_hide 23 rfl) rfl (lv_at hl 2 rfl) ?_
      refine kw_puti hx hb hts inX6 tyX6 tyX6_ok nmX6 hown hK I 3 rfl rfl 2 (by decide) rfl (hts _ q1_227) rfl rfl rfl (kn_dec tX8_hide 24 rfl) (fun v_s9 ev_s9 H locs I => ?_)
      have h := h v_s9 ev_s9
      have I : kn_I D tc (kn_A _ s.heap.size) s.heap (List.flatten [[(kTin, ad_t, _)], [(kScene, ad_c, _)], [(kHill, ad_h, _)], [(kState, ad_s, _)], kn_pool kState 20 ad_pp _]) _ _ := I
      refine lv_iload_n hx hb (kn_dec tX8_hide 25 rfl) rfl (lv_at hl 0 rfl) ?_
      exact kw_iret hx hb hr hlocks I (u7.1, v_s9, u7.2) rfl h (kn_dec tX8_hide 26 rfl)
    · have h := h.2 c4
      refine lv_bipush (v := (-2)) hx hb (kn_dec tX8_hide 10 rfl) (by decide) ?_
      exact kw_iret hx hb hr hlocks I (v_c, v_s, v_pp) rfl h (kn_dec tX8_hide 11 rfl)

/-! X8_rest -/
abbrev rmX8_rest : Room := { frames := 3, cells := 0, slots := 0, locals := 105 }
def PX8_rest  (v_t : OV) (v_c : OV) (v_h : OV) (v_s : OV) (v_pp : (Nat → OV)) (a1 : Int32) (post : Int32 → OV → OV → (Nat → OV) → Prop) : Prop := (PX8_hasStone v_t v_c v_h a1 (fun r1 => ((r1 = ((0 : Int32)) → post ((-1 : Int32)) v_c v_s v_pp) ∧ (¬ r1 = ((0 : Int32)) → (vp_in a1 10 ∧ ((¬ (v_s.2.1 3 a1.toNatClampNeg) = ((0 : Int32)) → (PX5_remember v_c v_s v_pp (fun v_c6 v_pp7 => (vp_in a1 10 ∧ (∀ x10 : Int32, x10 = (v_s.2.1 3 a1.toNatClampNeg) → (vp_in a1 10 ∧ (∀ v_s12 : OV, v_s12 = sa v_s 3 (upd (v_s.2.1 3) a1.toNatClampNeg ((0 : Int32))) → post x10 v_c6 v_s12 v_pp7))))))) ∧ ((v_s.2.1 3 a1.toNatClampNeg) = ((0 : Int32)) → post ((-1 : Int32)) v_c v_s v_pp)))))))
set_option maxRecDepth 100000 in
set_option maxHeartbeats 1000000 in
theorem ctX8_rest {l : Launch} {D : va_G} {tc : Nat → ClassId} {Z : (Nat → Nat) × (Nat → Nat)}  {ad_t : Nat → Nat} {ad_c : Nat → Nat} {ad_h : Nat → Nat} {ad_s : Nat → Nat} {ad_pp : Nat → Nat → Nat} {v_t : OV} {v_c : OV} {v_h : OV} {v_s : OV} {v_pp : (Nat → OV)} {a1 : Int32} (e_t_6 : ad_t (6 + 1) = ad_c 0) (e_c_0 : ad_c (0 + 1) = ad_h 0) (e_c_3 : ad_c (3 + 1) = ad_s 0) (p_c_4 : ∀ i, i < 20 → kn_q ad_c 4 i = some (ad_pp i 0))   {post : Int32 → OV → OV → (Nat → OV) → Prop} (h : PX8_rest  v_t v_c v_h v_s v_pp a1 post) : CTi l D tc Z yX8_rest (Cond.code yX8_rest cX8_rest 3 (some .int) :: kn_all) rmX8_rest 0 0 [.ref (ad_t 0), .int a1] (List.flatten [[(kTin, ad_t, v_t)], [(kScene, ad_c, v_c)], [(kHill, ad_h, v_h)], [(kState, ad_s, v_s)], kn_pool kState 20 ad_pp v_pp]) (fun (u : OV × OV × (Nat → OV)) => (List.flatten [[(kTin, ad_t, v_t)], [(kScene, ad_c, u.1)], [(kHill, ad_h, v_h)], [(kState, ad_s, u.2.1)], kn_pool kState 20 ad_pp u.2.2])) (fun (r : Int32) (u : OV × OV × (Nat → OV)) => post r u.1 u.2.1 u.2.2) := by
  refine kn_ofi (cc := cX8_rest) (nL := 3) (ret := (some .int)) (lv := [(0, .ref (ad_t 0)), (1, .int a1)]) (by decide) (Nat.le_of_ble_eq_true rfl) rfl (fun p e s m below meth c ls X I hl _ => ?_)
  obtain ⟨S0, hr, hlocks, hK, hZ, hA⟩ := id X
  obtain ⟨hx, hb, hml, hown, hts⟩ := id S0
  unfold PX8_rest at h
  refine lv_aload_n hx hb (kn_dec tX8_rest 0 rfl) rfl (lv_at hl 0 rfl) ?_
  refine lv_iload_n hx hb (kn_dec tX8_rest 1 rfl) rfl (lv_at hl 1 rfl) ?_
  have I : kn_I D tc (kn_A _ s.heap.size) s.heap ([(kTin, ad_t, _), (kScene, ad_c, _), (kHill, ad_h, _)] ++ (List.flatten [[(kState, ad_s, _)], kn_pool kState 20 ad_pp _])) _ _ := I.perm (kn_segA (segs := [[(kTin, ad_t, _)], [(kScene, ad_c, _)], [(kHill, ad_h, _)], [(kState, ad_s, _)], kn_pool kState 20 ad_pp _]) (sC := [[(kTin, ad_t, _)], [(kScene, ad_c, _)], [(kHill, ad_h, _)]]) (sR := [[(kState, ad_s, _)], kn_pool kState 20 ad_pp _]) [0, 1, 2, 3, 4] rfl rfl)
  refine kw_calli (wc := [(kTin, ad_t, _), (kScene, ad_c, _), (kHill, ad_h, _)]) (wr := (List.flatten [[(kState, ad_s, _)], kn_pool kState 20 ad_pp _])) I hA (kn_pl1 _ _) (kn_pl2 _ _) (kn_pl1_ok _ _) (kn_pl2_ok _ _) (kn_pl2_nd _ _) (kn_pl_dis _ _) (kn_runV (As := [.int _]) S0 hK hZ hA I ((ctX8_hasStone e_t_6 e_c_0 h).met _) (kn_cwV 1 hts q3_142 q3_144 q0_12 q1_1 q3_145 rfl rfl (by decide +kernel) ⟨(Nat.le_of_ble_eq_true rfl), (Nat.le_of_ble_eq_true rfl)⟩) (kn_pl1 _ _) (kn_pl1_ok _ _) (kn_pl1_nd _ _) 0 rfl rfl rfl rfl hl.1 rfl (Nat.le_of_ble_eq_true rfl) (kn_dec tX8_rest 2 rfl) ⟨(Nat.le_of_ble_eq_true rfl), (Nat.le_of_ble_eq_true rfl)⟩) (fun r1 u2 H locs h I => ?_)
  obtain ⟨hz_r1, h⟩ := h
  have I : kn_I D tc (kn_A _ s.heap.size) s.heap (List.flatten [[(kTin, ad_t, _)], [(kScene, ad_c, _)], [(kHill, ad_h, _)], [(kState, ad_s, _)], kn_pool kState 20 ad_pp _]) _ _ := I.perm (kn_segB (sC := [[(kState, ad_s, _)], kn_pool kState 20 ad_pp _]) (sR := [[(kTin, ad_t, _)], [(kScene, ad_c, _)], [(kHill, ad_h, _)]]) (segs := [[(kTin, ad_t, _)], [(kScene, ad_c, _)], [(kHill, ad_h, _)], [(kState, ad_s, _)], kn_pool kState 20 ad_pp _]) [2, 3, 4, 0, 1] rfl rfl)
  refine lv_if_eq (tgt := 23) hx hb (kn_dec tX8_rest 3 rfl) (by decide) (fun c3 => ?_) (fun c3 => ?_)
  · have h := h.1 c3
    refine lv_iconst (v := (-1)) hx hb (kn_dec tX8_rest 11 rfl) (by decide) ?_
    exact kw_iret hx hb hr hlocks I (v_c, v_s, v_pp) rfl h (kn_dec tX8_rest 12 rfl)
  · have h := h.2 c3
    refine lv_aload_n hx hb (kn_dec tX8_rest 4 rfl) rfl (lv_at hl 0 rfl) ?_
    refine kw_getl hx hb hts inX8 hown hK I 0 rfl rfl 6 (by decide) rfl (hts _ q2_105) (kn_dec tX8_rest 5 rfl) e_t_6 ?_
    refine kw_getl hx hb hts inX5 hown hK I 1 rfl rfl 3 (by decide) rfl (hts _ q2_34) (kn_dec tX8_rest 6 rfl) e_c_3 ?_
    refine kw_getl hx hb hts inX6 hown hK I 3 rfl rfl 3 (by decide) rfl (hts _ q1_231) (kn_dec tX8_rest 7 rfl) rfl ?_
    refine lv_iload_n hx hb (kn_dec tX8_rest 8 rfl) rfl (lv_at hl 1 rfl) ?_
    obtain ⟨hs4, h⟩ := h
    refine kw_iald hx hb hK I 3 rfl 3 10 (List.mem_of_getElem? (i := 0) rfl) hs4 (kn_dec tX8_rest 9 rfl) ?_
    refine lv_if_ne (tgt := 25) hx hb (kn_dec tX8_rest 10 rfl) (by decide) (fun c5 => ?_) (fun c5 => ?_)
    · have h := h.1 c5
      refine lv_aload_n hx hb (kn_dec tX8_rest 13 rfl) rfl (lv_at hl 0 rfl) ?_
      refine kw_getl hx hb hts inX8 hown hK I 0 rfl rfl 6 (by decide) rfl (hts _ q2_105) (kn_dec tX8_rest 14 rfl) e_t_6 ?_
      have I : kn_I D tc (kn_A _ s.heap.size) s.heap ((List.flatten [[(kScene, ad_c, _)], [(kState, ad_s, _)], kn_pool kState 20 ad_pp _]) ++ (List.flatten [[(kTin, ad_t, _)], [(kHill, ad_h, _)]])) _ _ := I.perm (kn_segA (segs := [[(kTin, ad_t, _)], [(kScene, ad_c, _)], [(kHill, ad_h, _)], [(kState, ad_s, _)], kn_pool kState 20 ad_pp _]) (sC := [[(kScene, ad_c, _)], [(kState, ad_s, _)], kn_pool kState 20 ad_pp _]) (sR := [[(kTin, ad_t, _)], [(kHill, ad_h, _)]]) [1, 3, 4, 0, 2] rfl rfl)
      refine kw_callv (wc := (List.flatten [[(kScene, ad_c, _)], [(kState, ad_s, _)], kn_pool kState 20 ad_pp _])) (wr := (List.flatten [[(kTin, ad_t, _)], [(kHill, ad_h, _)]])) I hA (kn_pl1 _ _) (kn_pl2 _ _) (kn_pl1_ok _ _) (kn_pl2_ok _ _) (kn_pl2_nd _ _) (kn_pl_dis _ _) (kn_runV (As := []) S0 hK hZ hA I ((ctX5_remember e_c_3 p_c_4 h).met _) (kn_cwV 0 hts q3_166 q3_167 q3_168 q1_6 q3_169 rfl rfl (by decide +kernel) ⟨(Nat.le_of_ble_eq_true rfl), (Nat.le_of_ble_eq_true rfl)⟩) (kn_pl1 _ _) (kn_pl1_ok _ _) (kn_pl1_nd _ _) 0 rfl rfl rfl rfl hl.1 rfl (Nat.le_of_ble_eq_true rfl) (kn_dec tX8_rest 15 rfl) ⟨(Nat.le_of_ble_eq_true rfl), (Nat.le_of_ble_eq_true rfl)⟩) (fun u8 H locs h I => ?_)
      have I : kn_I D tc (kn_A _ s.heap.size) s.heap (List.flatten [[(kTin, ad_t, _)], [(kScene, ad_c, _)], [(kHill, ad_h, _)], [(kState, ad_s, _)], kn_pool kState 20 ad_pp _]) _ _ := I.perm (kn_segB (sC := [[(kTin, ad_t, _)], [(kHill, ad_h, _)]]) (sR := [[(kScene, ad_c, _)], [(kState, ad_s, _)], kn_pool kState 20 ad_pp _]) (segs := [[(kTin, ad_t, _)], [(kScene, ad_c, _)], [(kHill, ad_h, _)], [(kState, ad_s, _)], kn_pool kState 20 ad_pp _]) [0, 2, 1, 3, 4] rfl rfl)
      refine lv_aload_n hx hb (kn_dec tX8_rest 16 rfl) rfl (lv_at hl 0 rfl) ?_
      refine kw_getl hx hb hts inX8 hown hK I 0 rfl rfl 6 (by decide) rfl (hts _ q2_105) (kn_dec tX8_rest 17 rfl) e_t_6 ?_
      refine kw_getl hx hb hts inX5 hown hK I 1 rfl rfl 3 (by decide) rfl (hts _ q2_34) (kn_dec tX8_rest 18 rfl) e_c_3 ?_
      refine kw_getl hx hb hts inX6 hown hK I 3 rfl rfl 3 (by decide) rfl (hts _ q1_231) (kn_dec tX8_rest 19 rfl) rfl ?_
      refine lv_iload_n hx hb (kn_dec tX8_rest 20 rfl) rfl (lv_at hl 1 rfl) ?_
      obtain ⟨hs9, h⟩ := h
      refine kw_iald hx hb hK I 3 rfl 3 10 (List.mem_of_getElem? (i := 0) rfl) hs9 (kn_dec tX8_rest 21 rfl) ?_
      refine lv_topi (fun x10 ex10 => ?_)
      have h := h x10 ex10
      refine lv_istore_n (lv' := [(2, .int _), (0, .ref (ad_t 0)), (1, .int _)]) hx hb (kn_dec tX8_rest 22 rfl) rfl hl (by decide) rfl (fun ls hl => ?_)
      refine lv_aload_n hx hb (kn_dec tX8_rest 23 rfl) rfl (lv_at hl 1 rfl) ?_
      refine kw_getl hx hb hts inX8 hown hK I 0 rfl rfl 6 (by decide) rfl (hts _ q2_105) (kn_dec tX8_rest 24 rfl) e_t_6 ?_
      refine kw_getl hx hb hts inX5 hown hK I 1 rfl rfl 3 (by decide) rfl (hts _ q2_34) (kn_dec tX8_rest 25 rfl) e_c_3 ?_
      refine kw_getl hx hb hts inX6 hown hK I 3 rfl rfl 3 (by decide) rfl (hts _ q1_231) (kn_dec tX8_rest 26 rfl) rfl ?_
      refine lv_iload_n hx hb (kn_dec tX8_rest 27 rfl) rfl (lv_at hl 2 rfl) ?_
      refine lv_iconst (v := (0)) hx hb (kn_dec tX8_rest 28 rfl) (by decide) ?_
      obtain ⟨hs11, h⟩ := h
      refine kw_iast hx hb hK I 3 rfl 3 10 (List.mem_of_getElem? (i := 0) rfl) ukState_3 hs11 (kn_dec tX8_rest 29 rfl) (fun v_s12 ev_s12 H locs I => ?_)
      have h := h v_s12 ev_s12
      have I : kn_I D tc (kn_A _ s.heap.size) s.heap (List.flatten [[(kTin, ad_t, _)], [(kScene, ad_c, _)], [(kHill, ad_h, _)], [(kState, ad_s, _)], kn_pool kState 20 ad_pp _]) _ _ := I
      refine lv_iload_n hx hb (kn_dec tX8_rest 30 rfl) rfl (lv_at hl 0 rfl) ?_
      exact kw_iret hx hb hr hlocks I (u8.1, v_s12, u8.2) rfl h (kn_dec tX8_rest 31 rfl)
    · have h := h.2 c5
      refine lv_iconst (v := (-1)) hx hb (kn_dec tX8_rest 11 rfl) (by decide) ?_
      exact kw_iret hx hb hr hlocks I (v_c, v_s, v_pp) rfl h (kn_dec tX8_rest 12 rfl)

/-! X8_figure -/
abbrev rmX8_figure : Room := { frames := 3, cells := 0, slots := 0, locals := 105 }
def PX8_figure  (v_t : OV) (v_c : OV) (v_h : OV) (v_s : OV) (v_pp : (Nat → OV)) (a1 : Int32) (post : Int32 → OV → OV → (Nat → OV) → Prop) : Prop := (((v_h.1 0) = ((0 : Int32)) → post ((-1 : Int32)) v_c v_s v_pp) ∧ (¬ (v_h.1 0) = ((0 : Int32)) → ((a1 < ((0 : Int32)) → post ((-1 : Int32)) v_c v_s v_pp) ∧ (¬ a1 < ((0 : Int32)) → ((((99 : Int32)) < a1 → post ((-1 : Int32)) v_c v_s v_pp) ∧ (¬ ((99 : Int32)) < a1 → ((¬ a1 = (v_s.1 1) → (PX5_remember v_c v_s v_pp (fun v_c5 v_pp6 => (∀ x8 : Int32, x8 = (v_s.1 1) → (∀ v_s9 : OV, v_s9 = si v_s 1 a1 → post x8 v_c5 v_s9 v_pp6))))) ∧ (a1 = (v_s.1 1) → post ((-1 : Int32)) v_c v_s v_pp))))))))
set_option maxRecDepth 100000 in
set_option maxHeartbeats 1000000 in
theorem ctX8_figure {l : Launch} {D : va_G} {tc : Nat → ClassId} {Z : (Nat → Nat) × (Nat → Nat)}  {ad_t : Nat → Nat} {ad_c : Nat → Nat} {ad_h : Nat → Nat} {ad_s : Nat → Nat} {ad_pp : Nat → Nat → Nat} {v_t : OV} {v_c : OV} {v_h : OV} {v_s : OV} {v_pp : (Nat → OV)} {a1 : Int32} (e_t_6 : ad_t (6 + 1) = ad_c 0) (e_c_0 : ad_c (0 + 1) = ad_h 0) (e_c_3 : ad_c (3 + 1) = ad_s 0) (p_c_4 : ∀ i, i < 20 → kn_q ad_c 4 i = some (ad_pp i 0))   {post : Int32 → OV → OV → (Nat → OV) → Prop} (h : PX8_figure  v_t v_c v_h v_s v_pp a1 post) : CTi l D tc Z yX8_figure (Cond.code yX8_figure cX8_figure 3 (some .int) :: kn_all) rmX8_figure 0 0 [.ref (ad_t 0), .int a1] (List.flatten [[(kTin, ad_t, v_t)], [(kScene, ad_c, v_c)], [(kHill, ad_h, v_h)], [(kState, ad_s, v_s)], kn_pool kState 20 ad_pp v_pp]) (fun (u : OV × OV × (Nat → OV)) => (List.flatten [[(kTin, ad_t, v_t)], [(kScene, ad_c, u.1)], [(kHill, ad_h, v_h)], [(kState, ad_s, u.2.1)], kn_pool kState 20 ad_pp u.2.2])) (fun (r : Int32) (u : OV × OV × (Nat → OV)) => post r u.1 u.2.1 u.2.2) := by
  refine kn_ofi (cc := cX8_figure) (nL := 3) (ret := (some .int)) (lv := [(0, .ref (ad_t 0)), (1, .int a1)]) (by decide) (Nat.le_of_ble_eq_true rfl) rfl (fun p e s m below meth c ls X I hl _ => ?_)
  obtain ⟨S0, hr, hlocks, hK, hZ, hA⟩ := id X
  obtain ⟨hx, hb, hml, hown, hts⟩ := id S0
  unfold PX8_figure at h
  refine lv_aload_n hx hb (kn_dec tX8_figure 0 rfl) rfl (lv_at hl 0 rfl) ?_
  refine kw_getl hx hb hts inX8 hown hK I 0 rfl rfl 6 (by decide) rfl (hts _ q2_105) (kn_dec tX8_figure 1 rfl) e_t_6 ?_
  refine kw_getl hx hb hts inX5 hown hK I 1 rfl rfl 0 (by decide) rfl (hts _ q2_28) (kn_dec tX8_figure 2 rfl) e_c_0 ?_
  refine kw_geti hx hb hts inX0 hown hK I 2 rfl rfl 0 (by decide) rfl (hts _ q1_119) (kn_dec tX8_figure 3 rfl) ?_
  refine lv_if_eq (tgt := 37) hx hb (kn_dec tX8_figure 4 rfl) (by decide) (fun c1 => ?_) (fun c1 => ?_)
  · have h := h.1 c1
    refine lv_iconst (v := (-1)) hx hb (kn_dec tX8_figure 16 rfl) (by decide) ?_
    exact kw_iret hx hb hr hlocks I (v_c, v_s, v_pp) rfl h (kn_dec tX8_figure 17 rfl)
  · have h := h.2 c1
    refine lv_iload_n hx hb (kn_dec tX8_figure 5 rfl) rfl (lv_at hl 1 rfl) ?_
    refine lv_if_lt (tgt := 37) hx hb (kn_dec tX8_figure 6 rfl) (by decide) (fun c2 => ?_) (fun c2 => ?_)
    · have h := h.1 c2
      refine lv_iconst (v := (-1)) hx hb (kn_dec tX8_figure 16 rfl) (by decide) ?_
      exact kw_iret hx hb hr hlocks I (v_c, v_s, v_pp) rfl h (kn_dec tX8_figure 17 rfl)
    · have h := h.2 c2
      refine lv_iload_n hx hb (kn_dec tX8_figure 7 rfl) rfl (lv_at hl 1 rfl) ?_
      refine lv_bipush (v := (99)) hx hb (kn_dec tX8_figure 8 rfl) (by decide) ?_
      refine lv_icmp_gt (tgt := 37) hx hb (kn_dec tX8_figure 9 rfl) (by decide) (fun c3 => ?_) (fun c3 => ?_)
      · have h := h.1 c3
        refine lv_iconst (v := (-1)) hx hb (kn_dec tX8_figure 16 rfl) (by decide) ?_
        exact kw_iret hx hb hr hlocks I (v_c, v_s, v_pp) rfl h (kn_dec tX8_figure 17 rfl)
      · have h := h.2 c3
        refine lv_iload_n hx hb (kn_dec tX8_figure 10 rfl) rfl (lv_at hl 1 rfl) ?_
        refine lv_aload_n hx hb (kn_dec tX8_figure 11 rfl) rfl (lv_at hl 0 rfl) ?_
        refine kw_getl hx hb hts inX8 hown hK I 0 rfl rfl 6 (by decide) rfl (hts _ q2_105) (kn_dec tX8_figure 12 rfl) e_t_6 ?_
        refine kw_getl hx hb hts inX5 hown hK I 1 rfl rfl 3 (by decide) rfl (hts _ q2_34) (kn_dec tX8_figure 13 rfl) e_c_3 ?_
        refine kw_geti hx hb hts inX6 hown hK I 3 rfl rfl 1 (by decide) rfl (hts _ q1_224) (kn_dec tX8_figure 14 rfl) ?_
        refine lv_icmp_ne (tgt := 39) hx hb (kn_dec tX8_figure 15 rfl) (by decide) (fun c4 => ?_) (fun c4 => ?_)
        · have h := h.1 c4
          refine lv_aload_n hx hb (kn_dec tX8_figure 18 rfl) rfl (lv_at hl 0 rfl) ?_
          refine kw_getl hx hb hts inX8 hown hK I 0 rfl rfl 6 (by decide) rfl (hts _ q2_105) (kn_dec tX8_figure 19 rfl) e_t_6 ?_
          have I : kn_I D tc (kn_A _ s.heap.size) s.heap ((List.flatten [[(kScene, ad_c, _)], [(kState, ad_s, _)], kn_pool kState 20 ad_pp _]) ++ (List.flatten [[(kTin, ad_t, _)], [(kHill, ad_h, _)]])) _ _ := I.perm (kn_segA (segs := [[(kTin, ad_t, _)], [(kScene, ad_c, _)], [(kHill, ad_h, _)], [(kState, ad_s, _)], kn_pool kState 20 ad_pp _]) (sC := [[(kScene, ad_c, _)], [(kState, ad_s, _)], kn_pool kState 20 ad_pp _]) (sR := [[(kTin, ad_t, _)], [(kHill, ad_h, _)]]) [1, 3, 4, 0, 2] rfl rfl)
          refine kw_callv (wc := (List.flatten [[(kScene, ad_c, _)], [(kState, ad_s, _)], kn_pool kState 20 ad_pp _])) (wr := (List.flatten [[(kTin, ad_t, _)], [(kHill, ad_h, _)]])) I hA (kn_pl1 _ _) (kn_pl2 _ _) (kn_pl1_ok _ _) (kn_pl2_ok _ _) (kn_pl2_nd _ _) (kn_pl_dis _ _) (kn_runV (As := []) S0 hK hZ hA I ((ctX5_remember e_c_3 p_c_4 h).met _) (kn_cwV 0 hts q3_166 q3_167 q3_168 q1_6 q3_169 rfl rfl (by decide +kernel) ⟨(Nat.le_of_ble_eq_true rfl), (Nat.le_of_ble_eq_true rfl)⟩) (kn_pl1 _ _) (kn_pl1_ok _ _) (kn_pl1_nd _ _) 0 rfl rfl rfl rfl hl.1 rfl (Nat.le_of_ble_eq_true rfl) (kn_dec tX8_figure 20 rfl) ⟨(Nat.le_of_ble_eq_true rfl), (Nat.le_of_ble_eq_true rfl)⟩) (fun u7 H locs h I => ?_)
          have I : kn_I D tc (kn_A _ s.heap.size) s.heap (List.flatten [[(kTin, ad_t, _)], [(kScene, ad_c, _)], [(kHill, ad_h, _)], [(kState, ad_s, _)], kn_pool kState 20 ad_pp _]) _ _ := I.perm (kn_segB (sC := [[(kTin, ad_t, _)], [(kHill, ad_h, _)]]) (sR := [[(kScene, ad_c, _)], [(kState, ad_s, _)], kn_pool kState 20 ad_pp _]) (segs := [[(kTin, ad_t, _)], [(kScene, ad_c, _)], [(kHill, ad_h, _)], [(kState, ad_s, _)], kn_pool kState 20 ad_pp _]) [0, 2, 1, 3, 4] rfl rfl)
          refine lv_aload_n hx hb (kn_dec tX8_figure 21 rfl) rfl (lv_at hl 0 rfl) ?_
          refine kw_getl hx hb hts inX8 hown hK I 0 rfl rfl 6 (by decide) rfl (hts _ q2_105) (kn_dec tX8_figure 22 rfl) e_t_6 ?_
          refine kw_getl hx hb hts inX5 hown hK I 1 rfl rfl 3 (by decide) rfl (hts _ q2_34) (kn_dec tX8_figure 23 rfl) e_c_3 ?_
          refine kw_geti hx hb hts inX6 hown hK I 3 rfl rfl 1 (by decide) rfl (hts _ q1_224) (kn_dec tX8_figure 24 rfl) ?_
          refine lv_topi (fun x8 ex8 => ?_)
          have h := h x8 ex8
          refine lv_istore_n (lv' := [(2, .int _), (0, .ref (ad_t 0)), (1, .int _)]) hx hb (kn_dec tX8_figure 25 rfl) rfl hl (by decide) rfl (fun ls hl => ?_)
          refine lv_aload_n hx hb (kn_dec tX8_figure 26 rfl) rfl (lv_at hl 1 rfl) ?_
          refine kw_getl hx hb hts inX8 hown hK I 0 rfl rfl 6 (by decide) rfl (hts _ q2_105) (kn_dec tX8_figure 27 rfl) e_t_6 ?_
          refine kw_getl hx hb hts inX5 hown hK I 1 rfl rfl 3 (by decide) rfl (hts _ q2_34) (kn_dec tX8_figure 28 rfl) e_c_3 ?_
          refine lv_iload_n hx hb (kn_dec tX8_figure 29 rfl) rfl (lv_at hl 2 rfl) ?_
          refine kw_puti hx hb hts inX6 tyX6 tyX6_ok nmX6 hown hK I 3 rfl rfl 1 (by decide) rfl (hts _ q1_224) rfl rfl rfl (kn_dec tX8_figure 30 rfl) (fun v_s9 ev_s9 H locs I => ?_)
          have h := h v_s9 ev_s9
          have I : kn_I D tc (kn_A _ s.heap.size) s.heap (List.flatten [[(kTin, ad_t, _)], [(kScene, ad_c, _)], [(kHill, ad_h, _)], [(kState, ad_s, _)], kn_pool kState 20 ad_pp _]) _ _ := I
          refine lv_iload_n hx hb (kn_dec tX8_figure 31 rfl) rfl (lv_at hl 0 rfl) ?_
          exact kw_iret hx hb hr hlocks I (u7.1, v_s9, u7.2) rfl h (kn_dec tX8_figure 32 rfl)
        · have h := h.2 c4
          refine lv_iconst (v := (-1)) hx hb (kn_dec tX8_figure 16 rfl) (by decide) ?_
          exact kw_iret hx hb hr hlocks I (v_c, v_s, v_pp) rfl h (kn_dec tX8_figure 17 rfl)

/-! X8_forget -/
abbrev rmX8_forget : Room := { frames := 3, cells := 0, slots := 0, locals := 105 }
def PX8_forget  (v_t : OV) (v_c : OV) (v_h : OV) (v_s : OV) (v_pp : (Nat → OV)) (a1 : Int32) (post : Int32 → OV → OV → (Nat → OV) → Prop) : Prop := (PX8_hasSeeker v_t v_c v_h a1 (fun r1 => ((r1 = ((0 : Int32)) → post ((-1 : Int32)) v_c v_s v_pp) ∧ (¬ r1 = ((0 : Int32)) → (vp_in a1 4 ∧ ((¬ (v_s.2.1 6 a1.toNatClampNeg) = ((-1 : Int32)) → (PX5_remember v_c v_s v_pp (fun v_c6 v_pp7 => (vp_in a1 4 ∧ (∀ x10 : Int32, x10 = (v_s.2.1 6 a1.toNatClampNeg) → (vp_in a1 4 ∧ (∀ v_s12 : OV, v_s12 = sa v_s 6 (upd (v_s.2.1 6) a1.toNatClampNeg ((-1 : Int32))) → post x10 v_c6 v_s12 v_pp7))))))) ∧ ((v_s.2.1 6 a1.toNatClampNeg) = ((-1 : Int32)) → post ((-1 : Int32)) v_c v_s v_pp)))))))
set_option maxRecDepth 100000 in
set_option maxHeartbeats 1000000 in
theorem ctX8_forget {l : Launch} {D : va_G} {tc : Nat → ClassId} {Z : (Nat → Nat) × (Nat → Nat)}  {ad_t : Nat → Nat} {ad_c : Nat → Nat} {ad_h : Nat → Nat} {ad_s : Nat → Nat} {ad_pp : Nat → Nat → Nat} {v_t : OV} {v_c : OV} {v_h : OV} {v_s : OV} {v_pp : (Nat → OV)} {a1 : Int32} (e_t_6 : ad_t (6 + 1) = ad_c 0) (e_c_0 : ad_c (0 + 1) = ad_h 0) (e_c_3 : ad_c (3 + 1) = ad_s 0) (p_c_4 : ∀ i, i < 20 → kn_q ad_c 4 i = some (ad_pp i 0))   {post : Int32 → OV → OV → (Nat → OV) → Prop} (h : PX8_forget  v_t v_c v_h v_s v_pp a1 post) : CTi l D tc Z yX8_forget (Cond.code yX8_forget cX8_forget 3 (some .int) :: kn_all) rmX8_forget 0 0 [.ref (ad_t 0), .int a1] (List.flatten [[(kTin, ad_t, v_t)], [(kScene, ad_c, v_c)], [(kHill, ad_h, v_h)], [(kState, ad_s, v_s)], kn_pool kState 20 ad_pp v_pp]) (fun (u : OV × OV × (Nat → OV)) => (List.flatten [[(kTin, ad_t, v_t)], [(kScene, ad_c, u.1)], [(kHill, ad_h, v_h)], [(kState, ad_s, u.2.1)], kn_pool kState 20 ad_pp u.2.2])) (fun (r : Int32) (u : OV × OV × (Nat → OV)) => post r u.1 u.2.1 u.2.2) := by
  refine kn_ofi (cc := cX8_forget) (nL := 3) (ret := (some .int)) (lv := [(0, .ref (ad_t 0)), (1, .int a1)]) (by decide) (Nat.le_of_ble_eq_true rfl) rfl (fun p e s m below meth c ls X I hl _ => ?_)
  obtain ⟨S0, hr, hlocks, hK, hZ, hA⟩ := id X
  obtain ⟨hx, hb, hml, hown, hts⟩ := id S0
  unfold PX8_forget at h
  refine lv_aload_n hx hb (kn_dec tX8_forget 0 rfl) rfl (lv_at hl 0 rfl) ?_
  refine lv_iload_n hx hb (kn_dec tX8_forget 1 rfl) rfl (lv_at hl 1 rfl) ?_
  have I : kn_I D tc (kn_A _ s.heap.size) s.heap ([(kTin, ad_t, _), (kScene, ad_c, _), (kHill, ad_h, _)] ++ (List.flatten [[(kState, ad_s, _)], kn_pool kState 20 ad_pp _])) _ _ := I.perm (kn_segA (segs := [[(kTin, ad_t, _)], [(kScene, ad_c, _)], [(kHill, ad_h, _)], [(kState, ad_s, _)], kn_pool kState 20 ad_pp _]) (sC := [[(kTin, ad_t, _)], [(kScene, ad_c, _)], [(kHill, ad_h, _)]]) (sR := [[(kState, ad_s, _)], kn_pool kState 20 ad_pp _]) [0, 1, 2, 3, 4] rfl rfl)
  refine kw_calli (wc := [(kTin, ad_t, _), (kScene, ad_c, _), (kHill, ad_h, _)]) (wr := (List.flatten [[(kState, ad_s, _)], kn_pool kState 20 ad_pp _])) I hA (kn_pl1 _ _) (kn_pl2 _ _) (kn_pl1_ok _ _) (kn_pl2_ok _ _) (kn_pl2_nd _ _) (kn_pl_dis _ _) (kn_runV (As := [.int _]) S0 hK hZ hA I ((ctX8_hasSeeker e_t_6 e_c_0 h).met _) (kn_cwV 1 hts q3_154 q3_156 q0_13 q1_1 q3_157 rfl rfl (by decide +kernel) ⟨(Nat.le_of_ble_eq_true rfl), (Nat.le_of_ble_eq_true rfl)⟩) (kn_pl1 _ _) (kn_pl1_ok _ _) (kn_pl1_nd _ _) 0 rfl rfl rfl rfl hl.1 rfl (Nat.le_of_ble_eq_true rfl) (kn_dec tX8_forget 2 rfl) ⟨(Nat.le_of_ble_eq_true rfl), (Nat.le_of_ble_eq_true rfl)⟩) (fun r1 u2 H locs h I => ?_)
  obtain ⟨hz_r1, h⟩ := h
  have I : kn_I D tc (kn_A _ s.heap.size) s.heap (List.flatten [[(kTin, ad_t, _)], [(kScene, ad_c, _)], [(kHill, ad_h, _)], [(kState, ad_s, _)], kn_pool kState 20 ad_pp _]) _ _ := I.perm (kn_segB (sC := [[(kState, ad_s, _)], kn_pool kState 20 ad_pp _]) (sR := [[(kTin, ad_t, _)], [(kScene, ad_c, _)], [(kHill, ad_h, _)]]) (segs := [[(kTin, ad_t, _)], [(kScene, ad_c, _)], [(kHill, ad_h, _)], [(kState, ad_s, _)], kn_pool kState 20 ad_pp _]) [2, 3, 4, 0, 1] rfl rfl)
  refine lv_if_eq (tgt := 24) hx hb (kn_dec tX8_forget 3 rfl) (by decide) (fun c3 => ?_) (fun c3 => ?_)
  · have h := h.1 c3
    refine lv_iconst (v := (-1)) hx hb (kn_dec tX8_forget 12 rfl) (by decide) ?_
    exact kw_iret hx hb hr hlocks I (v_c, v_s, v_pp) rfl h (kn_dec tX8_forget 13 rfl)
  · have h := h.2 c3
    refine lv_aload_n hx hb (kn_dec tX8_forget 4 rfl) rfl (lv_at hl 0 rfl) ?_
    refine kw_getl hx hb hts inX8 hown hK I 0 rfl rfl 6 (by decide) rfl (hts _ q2_105) (kn_dec tX8_forget 5 rfl) e_t_6 ?_
    refine kw_getl hx hb hts inX5 hown hK I 1 rfl rfl 3 (by decide) rfl (hts _ q2_34) (kn_dec tX8_forget 6 rfl) e_c_3 ?_
    refine kw_getl hx hb hts inX6 hown hK I 3 rfl rfl 6 (by decide) rfl (hts _ q2_0) (kn_dec tX8_forget 7 rfl) rfl ?_
    refine lv_iload_n hx hb (kn_dec tX8_forget 8 rfl) rfl (lv_at hl 1 rfl) ?_
    obtain ⟨hs4, h⟩ := h
    refine kw_iald hx hb hK I 3 rfl 6 4 (List.mem_of_getElem? (i := 3) rfl) hs4 (kn_dec tX8_forget 9 rfl) ?_
    refine lv_iconst (v := (-1)) hx hb (kn_dec tX8_forget 10 rfl) (by decide) ?_
    refine lv_icmp_ne (tgt := 26) hx hb (kn_dec tX8_forget 11 rfl) (by decide) (fun c5 => ?_) (fun c5 => ?_)
    · have h := h.1 c5
      refine lv_aload_n hx hb (kn_dec tX8_forget 14 rfl) rfl (lv_at hl 0 rfl) ?_
      refine kw_getl hx hb hts inX8 hown hK I 0 rfl rfl 6 (by decide) rfl (hts _ q2_105) (kn_dec tX8_forget 15 rfl) e_t_6 ?_
      have I : kn_I D tc (kn_A _ s.heap.size) s.heap ((List.flatten [[(kScene, ad_c, _)], [(kState, ad_s, _)], kn_pool kState 20 ad_pp _]) ++ (List.flatten [[(kTin, ad_t, _)], [(kHill, ad_h, _)]])) _ _ := I.perm (kn_segA (segs := [[(kTin, ad_t, _)], [(kScene, ad_c, _)], [(kHill, ad_h, _)], [(kState, ad_s, _)], kn_pool kState 20 ad_pp _]) (sC := [[(kScene, ad_c, _)], [(kState, ad_s, _)], kn_pool kState 20 ad_pp _]) (sR := [[(kTin, ad_t, _)], [(kHill, ad_h, _)]]) [1, 3, 4, 0, 2] rfl rfl)
      refine kw_callv (wc := (List.flatten [[(kScene, ad_c, _)], [(kState, ad_s, _)], kn_pool kState 20 ad_pp _])) (wr := (List.flatten [[(kTin, ad_t, _)], [(kHill, ad_h, _)]])) I hA (kn_pl1 _ _) (kn_pl2 _ _) (kn_pl1_ok _ _) (kn_pl2_ok _ _) (kn_pl2_nd _ _) (kn_pl_dis _ _) (kn_runV (As := []) S0 hK hZ hA I ((ctX5_remember e_c_3 p_c_4 h).met _) (kn_cwV 0 hts q3_166 q3_167 q3_168 q1_6 q3_169 rfl rfl (by decide +kernel) ⟨(Nat.le_of_ble_eq_true rfl), (Nat.le_of_ble_eq_true rfl)⟩) (kn_pl1 _ _) (kn_pl1_ok _ _) (kn_pl1_nd _ _) 0 rfl rfl rfl rfl hl.1 rfl (Nat.le_of_ble_eq_true rfl) (kn_dec tX8_forget 16 rfl) ⟨(Nat.le_of_ble_eq_true rfl), (Nat.le_of_ble_eq_true rfl)⟩) (fun u8 H locs h I => ?_)
      have I : kn_I D tc (kn_A _ s.heap.size) s.heap (List.flatten [[(kTin, ad_t, _)], [(kScene, ad_c, _)], [(kHill, ad_h, _)], [(kState, ad_s, _)], kn_pool kState 20 ad_pp _]) _ _ := I.perm (kn_segB (sC := [[(kTin, ad_t, _)], [(kHill, ad_h, _)]]) (sR := [[(kScene, ad_c, _)], [(kState, ad_s, _)], kn_pool kState 20 ad_pp _]) (segs := [[(kTin, ad_t, _)], [(kScene, ad_c, _)], [(kHill, ad_h, _)], [(kState, ad_s, _)], kn_pool kState 20 ad_pp _]) [0, 2, 1, 3, 4] rfl rfl)
      refine lv_aload_n hx hb (kn_dec tX8_forget 17 rfl) rfl (lv_at hl 0 rfl) ?_
      refine kw_getl hx hb hts inX8 hown hK I 0 rfl rfl 6 (by decide) rfl (hts _ q2_105) (kn_dec tX8_forget 18 rfl) e_t_6 ?_
      refine kw_getl hx hb hts inX5 hown hK I 1 rfl rfl 3 (by decide) rfl (hts _ q2_34) (kn_dec tX8_forget 19 rfl) e_c_3 ?_
      refine kw_getl hx hb hts inX6 hown hK I 3 rfl rfl 6 (by decide) rfl (hts _ q2_0) (kn_dec tX8_forget 20 rfl) rfl ?_
      refine lv_iload_n hx hb (kn_dec tX8_forget 21 rfl) rfl (lv_at hl 1 rfl) ?_
      obtain ⟨hs9, h⟩ := h
      refine kw_iald hx hb hK I 3 rfl 6 4 (List.mem_of_getElem? (i := 3) rfl) hs9 (kn_dec tX8_forget 22 rfl) ?_
      refine lv_topi (fun x10 ex10 => ?_)
      have h := h x10 ex10
      refine lv_istore_n (lv' := [(2, .int _), (0, .ref (ad_t 0)), (1, .int _)]) hx hb (kn_dec tX8_forget 23 rfl) rfl hl (by decide) rfl (fun ls hl => ?_)
      refine lv_aload_n hx hb (kn_dec tX8_forget 24 rfl) rfl (lv_at hl 1 rfl) ?_
      refine kw_getl hx hb hts inX8 hown hK I 0 rfl rfl 6 (by decide) rfl (hts _ q2_105) (kn_dec tX8_forget 25 rfl) e_t_6 ?_
      refine kw_getl hx hb hts inX5 hown hK I 1 rfl rfl 3 (by decide) rfl (hts _ q2_34) (kn_dec tX8_forget 26 rfl) e_c_3 ?_
      refine kw_getl hx hb hts inX6 hown hK I 3 rfl rfl 6 (by decide) rfl (hts _ q2_0) (kn_dec tX8_forget 27 rfl) rfl ?_
      refine lv_iload_n hx hb (kn_dec tX8_forget 28 rfl) rfl (lv_at hl 2 rfl) ?_
      refine lv_iconst (v := (-1)) hx hb (kn_dec tX8_forget 29 rfl) (by decide) ?_
      obtain ⟨hs11, h⟩ := h
      refine kw_iast hx hb hK I 3 rfl 6 4 (List.mem_of_getElem? (i := 3) rfl) ukState_6 hs11 (kn_dec tX8_forget 30 rfl) (fun v_s12 ev_s12 H locs I => ?_)
      have h := h v_s12 ev_s12
      have I : kn_I D tc (kn_A _ s.heap.size) s.heap (List.flatten [[(kTin, ad_t, _)], [(kScene, ad_c, _)], [(kHill, ad_h, _)], [(kState, ad_s, _)], kn_pool kState 20 ad_pp _]) _ _ := I
      refine lv_iload_n hx hb (kn_dec tX8_forget 31 rfl) rfl (lv_at hl 0 rfl) ?_
      exact kw_iret hx hb hr hlocks I (u8.1, v_s12, u8.2) rfl h (kn_dec tX8_forget 32 rfl)
    · have h := h.2 c5
      refine lv_iconst (v := (-1)) hx hb (kn_dec tX8_forget 12 rfl) (by decide) ?_
      exact kw_iret hx hb hr hlocks I (v_c, v_s, v_pp) rfl h (kn_dec tX8_forget 13 rfl)

/-! X8_undo -/
abbrev rmX8_undo : Room := { frames := 3, cells := 0, slots := 0, locals := 105 }
def PX8_undo  (v_t : OV) (v_c : OV) (v_s : OV) (v_pp : (Nat → OV)) (post : Int32 → OV → OV → Prop) : Prop := (PX5_takeBack v_c v_s v_pp (fun r3 v_c1 v_s2 => ((r3 = ((0 : Int32)) → post ((-2 : Int32)) v_c1 v_s2) ∧ (¬ r3 = ((0 : Int32)) → post (v_c1.1 6) v_c1 v_s2))))
set_option maxRecDepth 100000 in
set_option maxHeartbeats 1000000 in
theorem ctX8_undo {l : Launch} {D : va_G} {tc : Nat → ClassId} {Z : (Nat → Nat) × (Nat → Nat)}  {ad_t : Nat → Nat} {ad_c : Nat → Nat} {ad_s : Nat → Nat} {ad_pp : Nat → Nat → Nat} {v_t : OV} {v_c : OV} {v_s : OV} {v_pp : (Nat → OV)} (e_t_6 : ad_t (6 + 1) = ad_c 0) (e_c_3 : ad_c (3 + 1) = ad_s 0) (p_c_4 : ∀ i, i < 20 → kn_q ad_c 4 i = some (ad_pp i 0))   {post : Int32 → OV → OV → Prop} (h : PX8_undo  v_t v_c v_s v_pp post) : CTi l D tc Z yX8_undo (Cond.code yX8_undo cX8_undo 1 (some .int) :: kn_all) rmX8_undo 0 0 [.ref (ad_t 0)] (List.flatten [[(kTin, ad_t, v_t)], [(kScene, ad_c, v_c)], [(kState, ad_s, v_s)], kn_pool kState 20 ad_pp v_pp]) (fun (u : OV × OV) => (List.flatten [[(kTin, ad_t, v_t)], [(kScene, ad_c, u.1)], [(kState, ad_s, u.2)], kn_pool kState 20 ad_pp v_pp])) (fun (r : Int32) (u : OV × OV) => post r u.1 u.2) := by
  refine kn_ofi (cc := cX8_undo) (nL := 1) (ret := (some .int)) (lv := [(0, .ref (ad_t 0))]) (by decide) (Nat.le_of_ble_eq_true rfl) rfl (fun p e s m below meth c ls X I hl _ => ?_)
  obtain ⟨S0, hr, hlocks, hK, hZ, hA⟩ := id X
  obtain ⟨hx, hb, hml, hown, hts⟩ := id S0
  unfold PX8_undo at h
  refine lv_aload_n hx hb (kn_dec tX8_undo 0 rfl) rfl (lv_at hl 0 rfl) ?_
  refine kw_getl hx hb hts inX8 hown hK I 0 rfl rfl 6 (by decide) rfl (hts _ q2_105) (kn_dec tX8_undo 1 rfl) e_t_6 ?_
  have I : kn_I D tc (kn_A _ s.heap.size) s.heap ((List.flatten [[(kScene, ad_c, _)], [(kState, ad_s, _)], kn_pool kState 20 ad_pp _]) ++ (List.flatten [[(kTin, ad_t, _)]])) _ _ := I.perm (kn_segA (segs := [[(kTin, ad_t, _)], [(kScene, ad_c, _)], [(kState, ad_s, _)], kn_pool kState 20 ad_pp _]) (sC := [[(kScene, ad_c, _)], [(kState, ad_s, _)], kn_pool kState 20 ad_pp _]) (sR := [[(kTin, ad_t, _)]]) [1, 2, 3, 0] rfl rfl)
  refine kw_calli (wc := (List.flatten [[(kScene, ad_c, _)], [(kState, ad_s, _)], kn_pool kState 20 ad_pp _])) (wr := (List.flatten [[(kTin, ad_t, _)]])) I hA (kn_pl1 _ _) (kn_pl2 _ _) (kn_pl1_ok _ _) (kn_pl2_ok _ _) (kn_pl2_nd _ _) (kn_pl_dis _ _) (kn_runV (As := []) S0 hK hZ hA I ((ctX5_takeBack e_c_3 p_c_4 h).met _) (kn_cwV 0 hts q4_36 q4_37 q4_38 q1_6 q4_39 rfl rfl (by decide +kernel) ⟨(Nat.le_of_ble_eq_true rfl), (Nat.le_of_ble_eq_true rfl)⟩) (kn_pl1 _ _) (kn_pl1_ok _ _) (kn_pl1_nd _ _) 0 rfl rfl rfl rfl hl.1 rfl (Nat.le_of_ble_eq_true rfl) (kn_dec tX8_undo 2 rfl) ⟨(Nat.le_of_ble_eq_true rfl), (Nat.le_of_ble_eq_true rfl)⟩) (fun r3 u4 H locs h I => ?_)
  obtain ⟨hz_r3, h⟩ := h
  have I : kn_I D tc (kn_A _ s.heap.size) s.heap (List.flatten [[(kTin, ad_t, _)], [(kScene, ad_c, _)], [(kState, ad_s, _)], kn_pool kState 20 ad_pp _]) _ _ := I.perm (kn_segB (sC := [[(kTin, ad_t, _)]]) (sR := [[(kScene, ad_c, _)], [(kState, ad_s, _)], kn_pool kState 20 ad_pp _]) (segs := [[(kTin, ad_t, _)], [(kScene, ad_c, _)], [(kState, ad_s, _)], kn_pool kState 20 ad_pp _]) [0, 1, 2, 3] rfl rfl)
  refine lv_if_eq (tgt := 20) hx hb (kn_dec tX8_undo 3 rfl) (by decide) (fun c5 => ?_) (fun c5 => ?_)
  · have h := h.1 c5
    refine lv_bipush (v := (-2)) hx hb (kn_dec tX8_undo 8 rfl) (by decide) ?_
    exact kw_iret hx hb hr hlocks I (u4.1, u4.2) rfl h (kn_dec tX8_undo 9 rfl)
  · have h := h.2 c5
    refine lv_aload_n hx hb (kn_dec tX8_undo 4 rfl) rfl (lv_at hl 0 rfl) ?_
    refine kw_getl hx hb hts inX8 hown hK I 0 rfl rfl 6 (by decide) rfl (hts _ q2_105) (kn_dec tX8_undo 5 rfl) e_t_6 ?_
    refine kw_geti hx hb hts inX5 hown hK I 1 rfl rfl 6 (by decide) rfl (hts _ q2_38) (kn_dec tX8_undo 6 rfl) ?_
    refine lv_goto (tgt := 22) hx hb (kn_dec tX8_undo 7 rfl) (by decide) ?_
    exact kw_iret hx hb hr hlocks I (u4.1, u4.2) rfl h (kn_dec tX8_undo 9 rfl)

/-! X8_ruleOf -/
abbrev rmX8_ruleOf : Room := { frames := 0, cells := 0, slots := 0, locals := 0 }
def PX8_ruleOf  (v_t : OV) (v_pr : (Nat → OV)) (gn_pr : Nat) (a1 : Int32) (post : Option Nat → Prop) : Prop := ((a1 < ((0 : Int32)) → post none) ∧ (¬ a1 < ((0 : Int32)) → (((v_t.1 5) ≤ a1 → post none) ∧ (¬ (v_t.1 5) ≤ a1 → (vp_in a1 6 ∧ (a1.toNatClampNeg < gn_pr ∧ post (some a1.toNatClampNeg)))))))
set_option maxRecDepth 100000 in
set_option maxHeartbeats 1000000 in
theorem ctX8_ruleOf {l : Launch} {D : va_G} {tc : Nat → ClassId} {Z : (Nat → Nat) × (Nat → Nat)}  {ad_t : Nat → Nat} {ad_pr : Nat → Nat → Nat} {v_t : OV} {v_pr : (Nat → OV)} {gn_pr : Nat} {a1 : Int32} (p_t_4 : ∀ i, i < gn_pr → kn_q ad_t 4 i = some (ad_pr i 0))   {post : Option Nat → Prop} (h : PX8_ruleOf  v_t v_pr gn_pr a1 post) : CTq l D tc Z yX8_ruleOf (Cond.code yX8_ruleOf cX8_ruleOf 2 (some (.object "TinWall$Rule")) :: kn_all) rmX8_ruleOf 0 0 [.ref (ad_t 0), .int a1] (List.flatten [[(kTin, ad_t, v_t)], kn_pool kRule gn_pr ad_pr v_pr]) (fun (u : Unit) => (List.flatten [[(kTin, ad_t, v_t)], kn_pool kRule gn_pr ad_pr v_pr])) (fun (r : Option Nat) (u : Unit) => ∃ o : Option Nat, (∀ i, o = some i → i < gn_pr) ∧ r = o.map (fun i => ad_pr i 0) ∧ post o) := by
  refine kn_ofq (cc := cX8_ruleOf) (nL := 2) (ret := (some (.object "TinWall$Rule"))) (lv := [(0, .ref (ad_t 0)), (1, .int a1)]) (by decide) (Nat.le_of_ble_eq_true rfl) rfl (fun p e s m below meth c ls X I hl _ => ?_)
  obtain ⟨S0, hr, hlocks, hK, hZ, hA⟩ := id X
  obtain ⟨hx, hb, hml, hown, hts⟩ := id S0
  unfold PX8_ruleOf at h
  refine lv_iload_n hx hb (kn_dec tX8_ruleOf 0 rfl) rfl (lv_at hl 1 rfl) ?_
  refine lv_if_lt (tgt := 21) hx hb (kn_dec tX8_ruleOf 1 rfl) (by decide) (fun c1 => ?_) (fun c1 => ?_)
  · have h := h.1 c1
    refine lv_null hx hb (kn_dec tX8_ruleOf 11 rfl) ?_
    exact kw_aret (r := none) hx hb hr (Or.inl ⟨_, rfl⟩) hlocks I () rfl rfl ⟨none, (fun i e => by cases e), rfl, h⟩ (kn_dec tX8_ruleOf 12 rfl)
  · have h := h.2 c1
    refine lv_iload_n hx hb (kn_dec tX8_ruleOf 2 rfl) rfl (lv_at hl 1 rfl) ?_
    refine lv_aload_n hx hb (kn_dec tX8_ruleOf 3 rfl) rfl (lv_at hl 0 rfl) ?_
    refine kw_geti hx hb hts inX8 hown hK I 0 rfl rfl 5 (by decide) rfl (hts _ q2_104) (kn_dec tX8_ruleOf 4 rfl) ?_
    refine lv_icmp_ge (tgt := 21) hx hb (kn_dec tX8_ruleOf 5 rfl) (by decide) (fun c2 => ?_) (fun c2 => ?_)
    · have h := h.1 c2
      refine lv_null hx hb (kn_dec tX8_ruleOf 11 rfl) ?_
      exact kw_aret (r := none) hx hb hr (Or.inl ⟨_, rfl⟩) hlocks I () rfl rfl ⟨none, (fun i e => by cases e), rfl, h⟩ (kn_dec tX8_ruleOf 12 rfl)
    · have h := h.2 c2
      refine lv_aload_n hx hb (kn_dec tX8_ruleOf 6 rfl) rfl (lv_at hl 0 rfl) ?_
      refine kw_getl hx hb hts inX8 hown hK I 0 rfl rfl 4 (by decide) rfl (hts _ q2_103) (kn_dec tX8_ruleOf 7 rfl) rfl ?_
      refine lv_iload_n hx hb (kn_dec tX8_ruleOf 8 rfl) rfl (lv_at hl 1 rfl) ?_
      obtain ⟨hs3, h⟩ := h
      obtain ⟨hp4, h⟩ := h
      refine kw_qald hx hb hK I 0 rfl 4 2 6 (List.mem_of_getElem? (i := 1) rfl) rfl hs3 (kn_dec tX8_ruleOf 9 rfl) (p_t_4 _ hp4) ?_
      refine lv_goto (tgt := 22) hx hb (kn_dec tX8_ruleOf 10 rfl) (by decide) ?_
      exact kw_aret (r := some (ad_pr a1.toNatClampNeg 0)) hx hb hr (Or.inl ⟨_, rfl⟩) hlocks I () rfl rfl ⟨some a1.toNatClampNeg, (fun i e => by cases e; exact hp4), rfl, h⟩ (kn_dec tX8_ruleOf 12 rfl)

/-! X8_ruleInForce -/
abbrev rmX8_ruleInForce : Room := { frames := 1, cells := 0, slots := 0, locals := 21 }
def PX8_ruleInForce  (v_t : OV) (v_c : OV) (v_pr : (Nat → OV)) (gn_pr : Nat) (post : Option Nat → Prop) : Prop := (PX8_ruleOf v_t v_pr gn_pr (v_c.1 1) (fun r1 => post r1))
set_option maxRecDepth 100000 in
set_option maxHeartbeats 1000000 in
theorem ctX8_ruleInForce {l : Launch} {D : va_G} {tc : Nat → ClassId} {Z : (Nat → Nat) × (Nat → Nat)}  {ad_t : Nat → Nat} {ad_c : Nat → Nat} {ad_pr : Nat → Nat → Nat} {v_t : OV} {v_c : OV} {v_pr : (Nat → OV)} {gn_pr : Nat} (e_t_6 : ad_t (6 + 1) = ad_c 0) (p_t_4 : ∀ i, i < gn_pr → kn_q ad_t 4 i = some (ad_pr i 0))   {post : Option Nat → Prop} (h : PX8_ruleInForce  v_t v_c v_pr gn_pr post) : CTq l D tc Z yX8_ruleInForce (Cond.code yX8_ruleInForce cX8_ruleInForce 1 (some (.object "TinWall$Rule")) :: kn_all) rmX8_ruleInForce 0 0 [.ref (ad_t 0)] (List.flatten [[(kTin, ad_t, v_t)], [(kScene, ad_c, v_c)], kn_pool kRule gn_pr ad_pr v_pr]) (fun (u : Unit) => (List.flatten [[(kTin, ad_t, v_t)], [(kScene, ad_c, v_c)], kn_pool kRule gn_pr ad_pr v_pr])) (fun (r : Option Nat) (u : Unit) => ∃ o : Option Nat, (∀ i, o = some i → i < gn_pr) ∧ r = o.map (fun i => ad_pr i 0) ∧ post o) := by
  refine kn_ofq (cc := cX8_ruleInForce) (nL := 1) (ret := (some (.object "TinWall$Rule"))) (lv := [(0, .ref (ad_t 0))]) (by decide) (Nat.le_of_ble_eq_true rfl) rfl (fun p e s m below meth c ls X I hl _ => ?_)
  obtain ⟨S0, hr, hlocks, hK, hZ, hA⟩ := id X
  obtain ⟨hx, hb, hml, hown, hts⟩ := id S0
  unfold PX8_ruleInForce at h
  refine lv_aload_n hx hb (kn_dec tX8_ruleInForce 0 rfl) rfl (lv_at hl 0 rfl) ?_
  refine lv_aload_n hx hb (kn_dec tX8_ruleInForce 1 rfl) rfl (lv_at hl 0 rfl) ?_
  refine kw_getl hx hb hts inX8 hown hK I 0 rfl rfl 6 (by decide) rfl (hts _ q2_105) (kn_dec tX8_ruleInForce 2 rfl) e_t_6 ?_
  refine kw_geti hx hb hts inX5 hown hK I 1 rfl rfl 1 (by decide) rfl (hts _ q2_30) (kn_dec tX8_ruleInForce 3 rfl) ?_
  have I : kn_I D tc (kn_A _ s.heap.size) s.heap ((List.flatten [[(kTin, ad_t, _)], kn_pool kRule gn_pr ad_pr _]) ++ (List.flatten [[(kScene, ad_c, _)]])) _ _ := I.perm (kn_segA (segs := [[(kTin, ad_t, _)], [(kScene, ad_c, _)], kn_pool kRule gn_pr ad_pr _]) (sC := [[(kTin, ad_t, _)], kn_pool kRule gn_pr ad_pr _]) (sR := [[(kScene, ad_c, _)]]) [0, 2, 1] rfl rfl)
  refine kw_callq (wc := (List.flatten [[(kTin, ad_t, _)], kn_pool kRule gn_pr ad_pr _])) (wr := (List.flatten [[(kScene, ad_c, _)]])) I hA (kn_pl1 _ _) (kn_pl2 _ _) (kn_pl1_ok _ _) (kn_pl2_ok _ _) (kn_pl2_nd _ _) (kn_pl_dis _ _) (kn_runV (As := [.int _]) S0 hK hZ hA I ((ctX8_ruleOf p_t_4 h).met _) (kn_cwV 1 hts q3_179 q3_181 q0_15 q1_1 q3_182 rfl rfl (by decide +kernel) ⟨(Nat.le_of_ble_eq_true rfl), (Nat.le_of_ble_eq_true rfl)⟩) (kn_pl1 _ _) (kn_pl1_ok _ _) (kn_pl1_nd _ _) 0 rfl rfl rfl rfl hl.1 rfl (Nat.le_of_ble_eq_true rfl) (kn_dec tX8_ruleInForce 4 rfl) ⟨(Nat.le_of_ble_eq_true rfl), (Nat.le_of_ble_eq_true rfl)⟩) (fun r1 u2 H locs h I => ?_)
  obtain ⟨r1, ho_r1, rfl, h⟩ := h
  have I : kn_I D tc (kn_A _ s.heap.size) s.heap (List.flatten [[(kTin, ad_t, _)], [(kScene, ad_c, _)], kn_pool kRule gn_pr ad_pr _]) _ _ := I.perm (kn_segB (sC := [[(kScene, ad_c, _)]]) (sR := [[(kTin, ad_t, _)], kn_pool kRule gn_pr ad_pr _]) (segs := [[(kTin, ad_t, _)], [(kScene, ad_c, _)], kn_pool kRule gn_pr ad_pr _]) [1, 0, 2] rfl rfl)
  exact kw_aret (r := r1.map (fun i => ad_pr i 0)) hx hb hr (Or.inl ⟨_, rfl⟩) hlocks I () rfl rfl ⟨r1, ho_r1, rfl, h⟩ (kn_dec tX8_ruleInForce 5 rfl)

/-! X8_goOn -/
abbrev rmX8_goOn : Room := { frames := 6, cells := 0, slots := 0, locals := 167 }
def PX8_goOn_L10 (v_t : OV) (v_c : OV) (v_h : OV) (gn_pr : Nat)  (post : Int32 → OV → OV → (Nat → OV) → Prop) : Nat → Int32 → Option Nat → Int32 → Int32 → OV → OV → (Nat → OV) → Prop
  | 0, _, _, _, _, _, _, _ => False
  | n + 1, y1, y2, y3, y4, v_w, v_z, v_pr => ((y1 ≤ y4 → post y3 v_w v_z v_pr) ∧ (¬ y1 ≤ y4 → ((y2 = none → (PX7_pass_N v_w v_h v_z ((0 : Int32)) (fun r5 v_w3 v_z4 => (∀ x7 : Int32, x7 = (y3 + r5) → (∀ x8 : Int32, x8 = y4 + (1 : Int32) → PX8_goOn_L10 v_t v_c v_h gn_pr post n y1 none x7 x8 v_w3 v_z4 v_pr))))) ∧ (∀ i2 : Nat, y2 = some i2 → (PX7_pass_R v_w v_h (v_pr i2) v_z ((0 : Int32)) (fun r12 v_w9 v_pr10 v_z11 => (∀ x14 : Int32, x14 = (y3 + r12) → (∀ x15 : Int32, x15 = y4 + (1 : Int32) → PX8_goOn_L10 v_t v_c v_h gn_pr post n y1 (some i2) x14 x15 v_w9 v_z11 (va_up v_pr i2 v_pr10)))))))))
set_option maxRecDepth 100000 in
set_option maxHeartbeats 1000000 in
theorem wX8_goOn_L10 {v_t : OV} {v_c : OV} {v_h : OV} {gn_pr : Nat}  {post : Int32 → OV → OV → (Nat → OV) → Prop} {ad_t : Nat → Nat} {ad_c : Nat → Nat} {ad_h : Nat → Nat} {ad_w : Nat → Nat} {ad_z : Nat → Nat} {ad_pr : Nat → Nat → Nat} (X : kn_X p s m args meth c cX8_goOn 5 (some .int) RX8 kn_all D tc Z (kn_A w0 s.heap.size)) (e_t_6 : ad_t (6 + 1) = ad_c 0) (e_c_0 : ad_c (0 + 1) = ad_h 0) (e_t_8 : ad_t (8 + 1) = ad_w 0) (e_t_9 : ad_t (9 + 1) = ad_z 0) (p_t_4 : ∀ i, i < gn_pr → kn_q ad_t 4 i = some (ad_pr i 0))   : ∀ n : Nat, ∀ (H : Heap) (locs : List Loc) (ls : Array Slot) (y1 : Int32) (y2 : Option Nat) (y3 : Int32) (y4 : Int32) (v_w : OV) (v_z : OV) (v_pr : (Nat → OV)), (ho_y2 : ∀ i, y2 = some i → i < gn_pr) → kn_I D tc (kn_A w0 s.heap.size) s.heap (List.flatten [[(kTin, ad_t, v_t)], [(kScene, ad_c, v_c)], [(kHill, ad_h, v_h)], [(kWalk, ad_w, v_w)], [(kState, ad_z, v_z)], kn_pool kRule gn_pr ad_pr v_pr]) H locs → lv_has ls 5 [(0, .ref (ad_t 0)), (1, .int y1), (2, va_rf (y2.map (fun i => ad_pr i 0))), (3, .int y3), (4, .int y4)] → PX8_goOn_L10 v_t v_c v_h gn_pr post n y1 y2 y3 y4 v_w v_z v_pr → W p l e rmX8_goOn s m args below meth c H locs 0 0 (kn_Qi D tc w0 (fun (u : OV × OV × (Nat → OV)) => (List.flatten [[(kTin, ad_t, v_t)], [(kScene, ad_c, v_c)], [(kHill, ad_h, v_h)], [(kWalk, ad_w, u.1)], [(kState, ad_z, u.2.1)], kn_pool kRule gn_pr ad_pr u.2.2])) (fun (r : Int32) (u : OV × OV × (Nat → OV)) => post r u.1 u.2.1 u.2.2) below args s 0 0) (F0 m 10 ls []) := by
  obtain ⟨S0, hr, hlocks, hK, hZ, hA⟩ := id X
  obtain ⟨hx, hb, hml, hown, hts⟩ := id S0
  intro n
  induction n with
  | zero =>
    intro H locs ls y1 y2 y3 y4 v_w v_z v_pr ho_y2 I hl h
    unfold PX8_goOn_L10 at h
    exact h.elim
  | succ n ih =>
    intro H locs ls y1 y2 y3 y4 v_w v_z v_pr ho_y2 I hl h
    unfold PX8_goOn_L10 at h
    refine lv_iload hx hb (kn_dec tX8_goOn 7 rfl) (lv_at hl 4 rfl) ?_
    refine lv_iload_n hx hb (kn_dec tX8_goOn 8 rfl) rfl (lv_at hl 1 rfl) ?_
    refine lv_icmp_ge (tgt := 45) hx hb (kn_dec tX8_goOn 9 rfl) (by decide) (fun c1 => ?_) (fun c1 => ?_)
    · have h := h.1 c1
      refine lv_iload_n hx hb (kn_dec tX8_goOn 25 rfl) rfl (lv_at hl 3 rfl) ?_
      exact kw_iret hx hb hr hlocks I (v_w, v_z, v_pr) rfl h (kn_dec tX8_goOn 26 rfl)
    · have h := h.2 c1
      refine lv_iload_n hx hb (kn_dec tX8_goOn 10 rfl) rfl (lv_at hl 3 rfl) ?_
      refine lv_aload_n hx hb (kn_dec tX8_goOn 11 rfl) rfl (lv_at hl 0 rfl) ?_
      refine kw_getl hx hb hts inX8 hown hK I 0 rfl rfl 8 (by decide) rfl (hts _ q2_107) (kn_dec tX8_goOn 12 rfl) e_t_8 ?_
      refine lv_aload_n hx hb (kn_dec tX8_goOn 13 rfl) rfl (lv_at hl 0 rfl) ?_
      refine kw_getl hx hb hts inX8 hown hK I 0 rfl rfl 6 (by decide) rfl (hts _ q2_105) (kn_dec tX8_goOn 14 rfl) e_t_6 ?_
      refine kw_getl hx hb hts inX5 hown hK I 1 rfl rfl 0 (by decide) rfl (hts _ q2_28) (kn_dec tX8_goOn 15 rfl) e_c_0 ?_
      refine kw_aloadq_n hx hb (kn_dec tX8_goOn 16 rfl) rfl (lv_at hl 2 rfl) ?_
      refine lv_aload_n hx hb (kn_dec tX8_goOn 17 rfl) rfl (lv_at hl 0 rfl) ?_
      refine kw_getl hx hb hts inX8 hown hK I 0 rfl rfl 9 (by decide) rfl (hts _ q2_108) (kn_dec tX8_goOn 18 rfl) e_t_9 ?_
      refine lv_iconst (v := (0)) hx hb (kn_dec tX8_goOn 19 rfl) (by decide) ?_
      rcases y2 with _ | i2
      · have h := h.1 rfl
        have I : kn_I D tc (kn_A w0 s.heap.size) s.heap ([(kWalk, ad_w, _), (kHill, ad_h, _), (kState, ad_z, _)] ++ (List.flatten [[(kTin, ad_t, _)], [(kScene, ad_c, _)], kn_pool kRule gn_pr ad_pr _])) _ _ := I.perm (kn_segA (segs := [[(kTin, ad_t, _)], [(kScene, ad_c, _)], [(kHill, ad_h, _)], [(kWalk, ad_w, _)], [(kState, ad_z, _)], kn_pool kRule gn_pr ad_pr _]) (sC := [[(kWalk, ad_w, _)], [(kHill, ad_h, _)], [(kState, ad_z, _)]]) (sR := [[(kTin, ad_t, _)], [(kScene, ad_c, _)], kn_pool kRule gn_pr ad_pr _]) [3, 2, 4, 0, 1, 5] rfl rfl)
        refine kw_calli (wc := [(kWalk, ad_w, _), (kHill, ad_h, _), (kState, ad_z, _)]) (wr := (List.flatten [[(kTin, ad_t, _)], [(kScene, ad_c, _)], kn_pool kRule gn_pr ad_pr _])) I hA (kn_pl1 _ _) (kn_pl2 _ _) (kn_pl1_ok _ _) (kn_pl2_ok _ _) (kn_pl2_nd _ _) (kn_pl_dis _ _) (kn_runV (As := [.ref (ad_h 0), .null, .ref (ad_z 0), .int _]) S0 hK hZ hA I ((ctX7_pass_N (Or.inl rfl) h).met _) (kn_cwV 4 hts q3_183 q3_184 q3_185 q1_9 q3_186 rfl rfl (by decide +kernel) ⟨(Nat.le_of_ble_eq_true rfl), (Nat.le_of_ble_eq_true rfl)⟩) (kn_pl1 _ _) (kn_pl1_ok _ _) (kn_pl1_nd _ _) 0 rfl rfl rfl rfl hl.1 rfl (Nat.le_of_ble_eq_true rfl) (kn_dec tX8_goOn 20 rfl) ⟨(Nat.le_of_ble_eq_true rfl), (Nat.le_of_ble_eq_true rfl)⟩) (fun r5 u6 H locs h I => ?_)
        have I : kn_I D tc (kn_A w0 s.heap.size) s.heap (List.flatten [[(kTin, ad_t, _)], [(kScene, ad_c, _)], [(kHill, ad_h, _)], [(kWalk, ad_w, _)], [(kState, ad_z, _)], kn_pool kRule gn_pr ad_pr _]) _ _ := I.perm (kn_segB (sC := [[(kTin, ad_t, _)], [(kScene, ad_c, _)], kn_pool kRule gn_pr ad_pr _]) (sR := [[(kWalk, ad_w, _)], [(kHill, ad_h, _)], [(kState, ad_z, _)]]) (segs := [[(kTin, ad_t, _)], [(kScene, ad_c, _)], [(kHill, ad_h, _)], [(kWalk, ad_w, _)], [(kState, ad_z, _)], kn_pool kRule gn_pr ad_pr _]) [0, 1, 4, 3, 5, 2] rfl rfl)
        refine lv_iadd hx hb (kn_dec tX8_goOn 21 rfl) ?_
        refine lv_topi (fun x7 ex7 => ?_)
        have h := h x7 ex7
        refine lv_istore_n (lv' := [(3, .int _), (0, .ref (ad_t 0)), (1, .int _), (2, .null), (4, .int _)]) hx hb (kn_dec tX8_goOn 22 rfl) rfl hl (by decide) rfl (fun ls hl => ?_)
        refine kw_iinc (lvf := fun y => [(4, .int y), (3, .int _), (0, .ref (ad_t 0)), (1, .int _), (2, .null)]) (nv := (1)) hx hb (kn_dec tX8_goOn 23 rfl) hl (k := 4) rfl (by decide) (by decide) (fun _ => rfl) (fun x8 ex8 ls hl => ?_)
        have h := h x8 ex8
        refine lv_goto (tgt := 10) hx hb (kn_dec tX8_goOn 24 rfl) (by decide) ?_
        exact ih _ _ _ _ _ _ _ _ _ _ (fun i e => by cases e) I (lv_sub hl [2, 3, 4, 1, 0] rfl) h
      · have h := h.2 i2 rfl
        have hp_i2 := ho_y2 i2 rfl
        have I : kn_I D tc (kn_A w0 s.heap.size) s.heap (List.flatten [[(kRule, ad_pr i2, _)], kn_rest kRule gn_pr ad_pr _ i2, [(kTin, ad_t, _)], [(kScene, ad_c, _)], [(kHill, ad_h, _)], [(kWalk, ad_w, _)], [(kState, ad_z, _)]]) _ _ := I.perm ((kn_seg (segs := [[(kTin, ad_t, _)], [(kScene, ad_c, _)], [(kHill, ad_h, _)], [(kWalk, ad_w, _)], [(kState, ad_z, _)], kn_pool kRule gn_pr ad_pr _]) (segs' := [kn_pool kRule gn_pr ad_pr _, [(kTin, ad_t, _)], [(kScene, ad_c, _)], [(kHill, ad_h, _)], [(kWalk, ad_w, _)], [(kState, ad_z, _)]]) [5, 0, 1, 2, 3, 4] rfl rfl).trans (kn_focus hp_i2))
        have I : kn_I D tc (kn_A w0 s.heap.size) s.heap ([(kWalk, ad_w, _), (kHill, ad_h, _), (kRule, ad_pr i2, _), (kState, ad_z, _)] ++ (List.flatten [kn_rest kRule gn_pr ad_pr _ i2, [(kTin, ad_t, _)], [(kScene, ad_c, _)]])) _ _ := I.perm (kn_segA (segs := [[(kRule, ad_pr i2, _)], kn_rest kRule gn_pr ad_pr _ i2, [(kTin, ad_t, _)], [(kScene, ad_c, _)], [(kHill, ad_h, _)], [(kWalk, ad_w, _)], [(kState, ad_z, _)]]) (sC := [[(kWalk, ad_w, _)], [(kHill, ad_h, _)], [(kRule, ad_pr i2, _)], [(kState, ad_z, _)]]) (sR := [kn_rest kRule gn_pr ad_pr _ i2, [(kTin, ad_t, _)], [(kScene, ad_c, _)]]) [5, 4, 0, 6, 1, 2, 3] rfl rfl)
        refine kw_calli (wc := [(kWalk, ad_w, _), (kHill, ad_h, _), (kRule, ad_pr i2, _), (kState, ad_z, _)]) (wr := (List.flatten [kn_rest kRule gn_pr ad_pr _ i2, [(kTin, ad_t, _)], [(kScene, ad_c, _)]])) I hA (kn_pl1 _ _) (kn_pl2 _ _) (kn_pl1_ok _ _) (kn_pl2_ok _ _) (kn_pl2_nd _ _) (kn_pl_dis _ _) (kn_runV (As := [.ref (ad_h 0), .ref (ad_pr i2 0), .ref (ad_z 0), .int _]) S0 hK hZ hA I ((ctX7_pass_R (Or.inl rfl) h).met _) (kn_cwV 4 hts q3_183 q3_184 q3_185 q1_9 q3_186 rfl rfl (by decide +kernel) ⟨(Nat.le_of_ble_eq_true rfl), (Nat.le_of_ble_eq_true rfl)⟩) (kn_pl1 _ _) (kn_pl1_ok _ _) (kn_pl1_nd _ _) 0 rfl rfl rfl rfl hl.1 rfl (Nat.le_of_ble_eq_true rfl) (kn_dec tX8_goOn 20 rfl) ⟨(Nat.le_of_ble_eq_true rfl), (Nat.le_of_ble_eq_true rfl)⟩) (fun r12 u13 H locs h I => ?_)
        have I : kn_I D tc (kn_A w0 s.heap.size) s.heap (List.flatten [[(kTin, ad_t, _)], [(kScene, ad_c, _)], [(kHill, ad_h, _)], [(kWalk, ad_w, _)], [(kState, ad_z, _)], kn_pool kRule gn_pr ad_pr _]) _ _ := I.perm ((kn_segB (sC := [kn_rest kRule gn_pr ad_pr _ i2, [(kTin, ad_t, _)], [(kScene, ad_c, _)]]) (sR := [[(kWalk, ad_w, _)], [(kHill, ad_h, _)], [(kRule, ad_pr i2, _)], [(kState, ad_z, _)]]) (segs := [[(kRule, ad_pr i2, _)], kn_rest kRule gn_pr ad_pr _ i2, [(kTin, ad_t, _)], [(kScene, ad_c, _)], [(kHill, ad_h, _)], [(kWalk, ad_w, _)], [(kState, ad_z, _)]]) [5, 0, 1, 2, 4, 3, 6] rfl rfl).trans ((kn_unfocus hp_i2).trans (kn_seg (segs := [kn_pool kRule gn_pr ad_pr _, [(kTin, ad_t, _)], [(kScene, ad_c, _)], [(kHill, ad_h, _)], [(kWalk, ad_w, _)], [(kState, ad_z, _)]]) (segs' := [[(kTin, ad_t, _)], [(kScene, ad_c, _)], [(kHill, ad_h, _)], [(kWalk, ad_w, _)], [(kState, ad_z, _)], kn_pool kRule gn_pr ad_pr _]) [1, 2, 3, 4, 5, 0] rfl rfl)))
        refine lv_iadd hx hb (kn_dec tX8_goOn 21 rfl) ?_
        refine lv_topi (fun x14 ex14 => ?_)
        have h := h x14 ex14
        refine lv_istore_n (lv' := [(3, .int _), (0, .ref (ad_t 0)), (1, .int _), (2, .ref (ad_pr i2 0)), (4, .int _)]) hx hb (kn_dec tX8_goOn 22 rfl) rfl hl (by decide) rfl (fun ls hl => ?_)
        refine kw_iinc (lvf := fun y => [(4, .int y), (3, .int _), (0, .ref (ad_t 0)), (1, .int _), (2, .ref (ad_pr i2 0))]) (nv := (1)) hx hb (kn_dec tX8_goOn 23 rfl) hl (k := 4) rfl (by decide) (by decide) (fun _ => rfl) (fun x15 ex15 ls hl => ?_)
        have h := h x15 ex15
        refine lv_goto (tgt := 10) hx hb (kn_dec tX8_goOn 24 rfl) (by decide) ?_
        exact ih _ _ _ _ _ _ _ _ _ _ (fun j e => by cases e; exact hp_i2) I (lv_sub hl [2, 3, 4, 1, 0] rfl) h
def PX8_goOn  (v_t : OV) (v_c : OV) (v_h : OV) (v_w : OV) (v_z : OV) (v_pr : (Nat → OV)) (gn_pr : Nat) (a1 : Int32) (post : Int32 → OV → OV → (Nat → OV) → Prop) : Prop := (PX8_ruleInForce v_t v_c v_pr gn_pr (fun r1 => (∃ n3 : Nat, PX8_goOn_L10 v_t v_c v_h gn_pr post n3 a1 r1 ((0 : Int32)) ((0 : Int32)) v_w v_z v_pr)))
set_option maxRecDepth 100000 in
set_option maxHeartbeats 1000000 in
theorem ctX8_goOn {l : Launch} {D : va_G} {tc : Nat → ClassId} {Z : (Nat → Nat) × (Nat → Nat)}  {ad_t : Nat → Nat} {ad_c : Nat → Nat} {ad_h : Nat → Nat} {ad_w : Nat → Nat} {ad_z : Nat → Nat} {ad_pr : Nat → Nat → Nat} {v_t : OV} {v_c : OV} {v_h : OV} {v_w : OV} {v_z : OV} {v_pr : (Nat → OV)} {gn_pr : Nat} {a1 : Int32} (e_t_6 : ad_t (6 + 1) = ad_c 0) (e_c_0 : ad_c (0 + 1) = ad_h 0) (e_t_8 : ad_t (8 + 1) = ad_w 0) (e_t_9 : ad_t (9 + 1) = ad_z 0) (p_t_4 : ∀ i, i < gn_pr → kn_q ad_t 4 i = some (ad_pr i 0))   {post : Int32 → OV → OV → (Nat → OV) → Prop} (h : PX8_goOn  v_t v_c v_h v_w v_z v_pr gn_pr a1 post) : CTi l D tc Z yX8_goOn (Cond.code yX8_goOn cX8_goOn 5 (some .int) :: kn_all) rmX8_goOn 0 0 [.ref (ad_t 0), .int a1] (List.flatten [[(kTin, ad_t, v_t)], [(kScene, ad_c, v_c)], [(kHill, ad_h, v_h)], [(kWalk, ad_w, v_w)], [(kState, ad_z, v_z)], kn_pool kRule gn_pr ad_pr v_pr]) (fun (u : OV × OV × (Nat → OV)) => (List.flatten [[(kTin, ad_t, v_t)], [(kScene, ad_c, v_c)], [(kHill, ad_h, v_h)], [(kWalk, ad_w, u.1)], [(kState, ad_z, u.2.1)], kn_pool kRule gn_pr ad_pr u.2.2])) (fun (r : Int32) (u : OV × OV × (Nat → OV)) => post r u.1 u.2.1 u.2.2) := by
  refine kn_ofi (cc := cX8_goOn) (nL := 5) (ret := (some .int)) (lv := [(0, .ref (ad_t 0)), (1, .int a1)]) (by decide) (Nat.le_of_ble_eq_true rfl) rfl (fun p e s m below meth c ls X I hl _ => ?_)
  obtain ⟨S0, hr, hlocks, hK, hZ, hA⟩ := id X
  obtain ⟨hx, hb, hml, hown, hts⟩ := id S0
  unfold PX8_goOn at h
  refine lv_aload_n hx hb (kn_dec tX8_goOn 0 rfl) rfl (lv_at hl 0 rfl) ?_
  have I : kn_I D tc (kn_A _ s.heap.size) s.heap ((List.flatten [[(kTin, ad_t, _)], [(kScene, ad_c, _)], kn_pool kRule gn_pr ad_pr _]) ++ (List.flatten [[(kHill, ad_h, _)], [(kWalk, ad_w, _)], [(kState, ad_z, _)]])) _ _ := I.perm (kn_segA (segs := [[(kTin, ad_t, _)], [(kScene, ad_c, _)], [(kHill, ad_h, _)], [(kWalk, ad_w, _)], [(kState, ad_z, _)], kn_pool kRule gn_pr ad_pr _]) (sC := [[(kTin, ad_t, _)], [(kScene, ad_c, _)], kn_pool kRule gn_pr ad_pr _]) (sR := [[(kHill, ad_h, _)], [(kWalk, ad_w, _)], [(kState, ad_z, _)]]) [0, 1, 5, 2, 3, 4] rfl rfl)
  refine kw_callq (wc := (List.flatten [[(kTin, ad_t, _)], [(kScene, ad_c, _)], kn_pool kRule gn_pr ad_pr _])) (wr := (List.flatten [[(kHill, ad_h, _)], [(kWalk, ad_w, _)], [(kState, ad_z, _)]])) I hA (kn_pl1 _ _) (kn_pl2 _ _) (kn_pl1_ok _ _) (kn_pl2_ok _ _) (kn_pl2_nd _ _) (kn_pl_dis _ _) (kn_runV (As := []) S0 hK hZ hA I ((ctX8_ruleInForce e_t_6 p_t_4 h).met _) (kn_cwV 0 hts q3_175 q3_177 q0_14 q1_1 q3_178 rfl rfl (by decide +kernel) ⟨(Nat.le_of_ble_eq_true rfl), (Nat.le_of_ble_eq_true rfl)⟩) (kn_pl1 _ _) (kn_pl1_ok _ _) (kn_pl1_nd _ _) 0 rfl rfl rfl rfl hl.1 rfl (Nat.le_of_ble_eq_true rfl) (kn_dec tX8_goOn 1 rfl) ⟨(Nat.le_of_ble_eq_true rfl), (Nat.le_of_ble_eq_true rfl)⟩) (fun r1 u2 H locs h I => ?_)
  obtain ⟨r1, ho_r1, rfl, h⟩ := h
  have I : kn_I D tc (kn_A _ s.heap.size) s.heap (List.flatten [[(kTin, ad_t, _)], [(kScene, ad_c, _)], [(kHill, ad_h, _)], [(kWalk, ad_w, _)], [(kState, ad_z, _)], kn_pool kRule gn_pr ad_pr _]) _ _ := I.perm (kn_segB (sC := [[(kHill, ad_h, _)], [(kWalk, ad_w, _)], [(kState, ad_z, _)]]) (sR := [[(kTin, ad_t, _)], [(kScene, ad_c, _)], kn_pool kRule gn_pr ad_pr _]) (segs := [[(kTin, ad_t, _)], [(kScene, ad_c, _)], [(kHill, ad_h, _)], [(kWalk, ad_w, _)], [(kState, ad_z, _)], kn_pool kRule gn_pr ad_pr _]) [3, 4, 0, 1, 2, 5] rfl rfl)
  refine kw_astoreq_n (lv' := [(2, va_rf (r1.map (fun i => ad_pr i 0))), (0, .ref (ad_t 0)), (1, .int a1)]) hx hb (kn_dec tX8_goOn 2 rfl) rfl hl (by decide) rfl (fun ls hl => ?_)
  refine lv_iconst (v := (0)) hx hb (kn_dec tX8_goOn 3 rfl) (by decide) ?_
  refine lv_istore_n (lv' := [(3, .int ((0 : Int32))), (2, va_rf (r1.map (fun i => ad_pr i 0))), (0, .ref (ad_t 0)), (1, .int a1)]) hx hb (kn_dec tX8_goOn 4 rfl) rfl hl (by decide) (by cases r1 <;> rfl) (fun ls hl => ?_)
  refine lv_iconst (v := (0)) hx hb (kn_dec tX8_goOn 5 rfl) (by decide) ?_
  refine lv_istore (lv' := [(4, .int ((0 : Int32))), (3, .int ((0 : Int32))), (2, va_rf (r1.map (fun i => ad_pr i 0))), (0, .ref (ad_t 0)), (1, .int a1)]) hx hb (kn_dec tX8_goOn 6 rfl) hl (by decide) (by cases r1 <;> rfl) (fun ls hl => ?_)
  obtain ⟨n3, h⟩ := h
  exact wX8_goOn_L10 X e_t_6 e_c_0 e_t_8 e_t_9 p_t_4 n3 _ _ _ _ _ _ _ _ _ _ ho_r1 I (lv_sub hl [3, 4, 2, 1, 0] rfl) h

end
