section
variable {p : Program} {l : Launch} {e : Env} {s : State} {m : MethodId} {args : Array Value} {below : List Frame} {meth : Method} {c : Code} {D : va_G} {tc : Nat → ClassId} {Z : (Nat → Nat) × (Nat → Nat)} {w0 : List CH}

/-! X9_hiding -/
abbrev rmX9_hiding : Room := { frames := 9, cells := 0, slots := 0, locals := 207 }
def PX9_hiding_b128  (K48 : Int32 → Int32 → Int32 → Int32 → Int32 → Int32 → OV → Prop) (post : Int32 → OV → Prop) (y1 : Int32) (y2 : Int32) (y6 : Int32) (y7 : Int32) (y8 : Int32) (v_m : OV) : Prop := (∀ x1 : Int32, x1 = y6 + (1 : Int32) → K48 y1 y2 y6 y7 y8 x1 v_m)
set_option maxRecDepth 100000 in
set_option maxHeartbeats 1000000 in
theorem wX9_hiding_b128  {K48 : Int32 → Int32 → Int32 → Int32 → Int32 → Int32 → OV → Prop} {post : Int32 → OV → Prop} {ad_m : Nat → Nat} (X : kn_X p s m args meth c cX9_hiding 9 (some .int) RX9 kn_all D tc Z (kn_A w0 s.heap.size))   (hK48 : ∀ (H : Heap) (locs : List Loc) (ls : Array Slot) (y1 : Int32) (y2 : Int32) (y3 : Int32) (y4 : Int32) (y5 : Int32) (y6 : Int32) (v_m : OV), (hz_y5 : y5 = 0 ∨ y5 = 1) → kn_I D tc (kn_A w0 s.heap.size) s.heap [(kModel, ad_m, v_m)] H locs → lv_has ls 9 [(0, .ref (ad_m 0)), (1, .int y1), (2, .int y2), (3, .int y3), (4, .int y4), (5, .int y5), (6, .int y6)] → K48 y1 y2 y3 y4 y5 y6 v_m → W p l e rmX9_hiding s m args below meth c H locs 0 0 (kn_Qi D tc w0 (fun (u : OV) => [(kModel, ad_m, u)]) (fun (r : Int32) (u : OV) => post r u) below args s 0 0) (F0 m 48 ls [])) : ∀ (H : Heap) (locs : List Loc) (ls : Array Slot) (y1 : Int32) (y2 : Int32) (y6 : Int32) (y7 : Int32) (y8 : Int32) (v_m : OV), (hz_y8 : y8 = 0 ∨ y8 = 1) → kn_I D tc (kn_A w0 s.heap.size) s.heap [(kModel, ad_m, v_m)] H locs → lv_has ls 9 [(0, .ref (ad_m 0)), (1, .int y1), (2, .int y2), (6, .int y6), (7, .int y7), (8, .int y8)] → PX9_hiding_b128 K48 post y1 y2 y6 y7 y8 v_m → W p l e rmX9_hiding s m args below meth c H locs 0 0 (kn_Qi D tc w0 (fun (u : OV) => [(kModel, ad_m, u)]) (fun (r : Int32) (u : OV) => post r u) below args s 0 0) (F0 m 128 ls []) := by
  obtain ⟨S0, hr, hlocks, hK, hZ, hA⟩ := id X
  obtain ⟨hx, hb, hml, hown, hts⟩ := id S0
  intro H locs ls y1 y2 y6 y7 y8 v_m hz_y8 I hl h
  unfold PX9_hiding_b128 at h
  refine lv_iload hx hb (kn_dec tX9_hiding 67 rfl) (lv_at hl 3 rfl) ?_
  refine lv_istore_n (lv' := [(3, .int _), (0, .ref (ad_m 0)), (1, .int _), (2, .int _), (6, .int _), (7, .int _), (8, .int _)]) hx hb (kn_dec tX9_hiding 68 rfl) rfl hl (by decide) rfl (fun ls hl => ?_)
  refine lv_iload hx hb (kn_dec tX9_hiding 69 rfl) (lv_at hl 5 rfl) ?_
  refine lv_istore (lv' := [(4, .int _), (3, .int _), (0, .ref (ad_m 0)), (1, .int _), (2, .int _), (6, .int _), (7, .int _), (8, .int _)]) hx hb (kn_dec tX9_hiding 70 rfl) hl (by decide) rfl (fun ls hl => ?_)
  refine lv_iload hx hb (kn_dec tX9_hiding 71 rfl) (lv_at hl 7 rfl) ?_
  refine lv_istore (lv' := [(5, .int _), (4, .int _), (3, .int _), (0, .ref (ad_m 0)), (1, .int _), (2, .int _), (6, .int _), (7, .int _), (8, .int _)]) hx hb (kn_dec tX9_hiding 72 rfl) hl (by decide) rfl (fun ls hl => ?_)
  refine kw_iinc (lvf := fun y => [(6, .int y), (5, .int _), (4, .int _), (3, .int _), (0, .ref (ad_m 0)), (1, .int _), (2, .int _), (7, .int _), (8, .int _)]) (nv := (1)) hx hb (kn_dec tX9_hiding 73 rfl) hl (k := 6) rfl (by decide) (by decide) (fun _ => rfl) (fun x1 ex1 ls hl => ?_)
  have h := h x1 ex1
  refine lv_goto (tgt := 48) hx hb (kn_dec tX9_hiding 74 rfl) (by decide) ?_
  exact hK48 _ _ _ _ _ _ _ _ _ _ hz_y8 I (lv_sub hl [4, 5, 6, 3, 2, 1, 0] rfl) h
def PX9_hiding_b98  (K48 : Int32 → Int32 → Int32 → Int32 → Int32 → Int32 → OV → Prop) (post : Int32 → OV → Prop) (t0 : Int32) (y1 : Int32) (y2 : Int32) (y3 : Int32) (y4 : Int32) (y5 : Int32) (y6 : Int32) (y7 : Int32) (v_m : OV) : Prop := (PX9_laysBack v_m (fun v_m1 => ((y4 < y7 → PX9_hiding_b128 K48 post y1 y2 y6 y7 t0 v_m1) ∧ (¬ y4 < y7 → ((¬ y7 = y4 → (∀ x5 : Int32, x5 = y6 + (1 : Int32) → K48 y1 y2 y3 y4 y5 x5 v_m1)) ∧ (y7 = y4 → ((t0 = ((0 : Int32)) → (∀ x7 : Int32, x7 = y6 + (1 : Int32) → K48 y1 y2 y3 y4 y5 x7 v_m1)) ∧ (¬ t0 = ((0 : Int32)) → ((¬ y5 = ((0 : Int32)) → (∀ x9 : Int32, x9 = y6 + (1 : Int32) → K48 y1 y2 y3 y4 y5 x9 v_m1)) ∧ (y5 = ((0 : Int32)) → PX9_hiding_b128 K48 post y1 y2 y6 y7 t0 v_m1))))))))))
set_option maxRecDepth 100000 in
set_option maxHeartbeats 1000000 in
theorem wX9_hiding_b98  {K48 : Int32 → Int32 → Int32 → Int32 → Int32 → Int32 → OV → Prop} {post : Int32 → OV → Prop} {ad_m : Nat → Nat} (X : kn_X p s m args meth c cX9_hiding 9 (some .int) RX9 kn_all D tc Z (kn_A w0 s.heap.size))   (hK48 : ∀ (H : Heap) (locs : List Loc) (ls : Array Slot) (y1 : Int32) (y2 : Int32) (y3 : Int32) (y4 : Int32) (y5 : Int32) (y6 : Int32) (v_m : OV), (hz_y5 : y5 = 0 ∨ y5 = 1) → kn_I D tc (kn_A w0 s.heap.size) s.heap [(kModel, ad_m, v_m)] H locs → lv_has ls 9 [(0, .ref (ad_m 0)), (1, .int y1), (2, .int y2), (3, .int y3), (4, .int y4), (5, .int y5), (6, .int y6)] → K48 y1 y2 y3 y4 y5 y6 v_m → W p l e rmX9_hiding s m args below meth c H locs 0 0 (kn_Qi D tc w0 (fun (u : OV) => [(kModel, ad_m, u)]) (fun (r : Int32) (u : OV) => post r u) below args s 0 0) (F0 m 48 ls [])) : ∀ (H : Heap) (locs : List Loc) (ls : Array Slot) (t0 : Int32) (y1 : Int32) (y2 : Int32) (y3 : Int32) (y4 : Int32) (y5 : Int32) (y6 : Int32) (y7 : Int32) (v_m : OV), (hz_t0 : t0 = 0 ∨ t0 = 1) → (hz_y5 : y5 = 0 ∨ y5 = 1) → kn_I D tc (kn_A w0 s.heap.size) s.heap [(kModel, ad_m, v_m)] H locs → lv_has ls 9 [(0, .ref (ad_m 0)), (1, .int y1), (2, .int y2), (3, .int y3), (4, .int y4), (5, .int y5), (6, .int y6), (7, .int y7)] → PX9_hiding_b98 K48 post t0 y1 y2 y3 y4 y5 y6 y7 v_m → W p l e rmX9_hiding s m args below meth c H locs 0 0 (kn_Qi D tc w0 (fun (u : OV) => [(kModel, ad_m, u)]) (fun (r : Int32) (u : OV) => post r u) below args s 0 0) (F0 m 98 ls [.int t0]) := by
  obtain ⟨S0, hr, hlocks, hK, hZ, hA⟩ := id X
  obtain ⟨hx, hb, hml, hown, hts⟩ := id S0
  intro H locs ls t0 y1 y2 y3 y4 y5 y6 y7 v_m hz_t0 hz_y5 I hl h
  unfold PX9_hiding_b98 at h
  refine lv_istore (lv' := [(8, .int _), (0, .ref (ad_m 0)), (1, .int _), (2, .int _), (3, .int _), (4, .int _), (5, .int _), (6, .int _), (7, .int _)]) hx hb (kn_dec tX9_hiding 54 rfl) hl (by decide) rfl (fun ls hl => ?_)
  refine lv_aload_n hx hb (kn_dec tX9_hiding 55 rfl) rfl (lv_at hl 1 rfl) ?_
  refine kw_callv (wc := [(kModel, ad_m, _)]) (wr := []) I hA [0] [] rfl rfl (by decide) (by decide) (kn_runV (As := []) S0 hK hZ hA I ((ctX9_laysBack h).met _) (kn_cwV 0 hts q7_13 q7_15 q0_82 q1_10 q7_16 rfl rfl (by decide +kernel) ⟨(Nat.le_of_ble_eq_true rfl), (Nat.le_of_ble_eq_true rfl)⟩) [0] rfl (by decide) 0 rfl rfl rfl rfl hl.1 rfl (Nat.le_of_ble_eq_true rfl) (kn_dec tX9_hiding 56 rfl) ⟨(Nat.le_of_ble_eq_true rfl), (Nat.le_of_ble_eq_true rfl)⟩) (fun u2 H locs h I => ?_)
  have I : kn_I D tc (kn_A w0 s.heap.size) s.heap [(kModel, ad_m, _)] _ _ := I
  refine lv_iload hx hb (kn_dec tX9_hiding 57 rfl) (lv_at hl 8 rfl) ?_
  refine lv_iload hx hb (kn_dec tX9_hiding 58 rfl) (lv_at hl 5 rfl) ?_
  refine lv_icmp_gt (tgt := 128) hx hb (kn_dec tX9_hiding 59 rfl) (by decide) (fun c3 => ?_) (fun c3 => ?_)
  · have h := h.1 c3
    exact wX9_hiding_b128 X hK48 _ _ _ _ _ _ _ _ _ hz_t0 I (lv_sub hl [1, 2, 3, 7, 8, 0] rfl) h
  · have h := h.2 c3
    refine lv_iload hx hb (kn_dec tX9_hiding 60 rfl) (lv_at hl 8 rfl) ?_
    refine lv_iload hx hb (kn_dec tX9_hiding 61 rfl) (lv_at hl 5 rfl) ?_
    refine lv_icmp_ne (tgt := 139) hx hb (kn_dec tX9_hiding 62 rfl) (by decide) (fun c4 => ?_) (fun c4 => ?_)
    · have h := h.1 c4
      refine kw_iinc (lvf := fun y => [(6, .int y), (8, .int _), (0, .ref (ad_m 0)), (1, .int _), (2, .int _), (3, .int _), (4, .int _), (5, .int _), (7, .int _)]) (nv := (1)) hx hb (kn_dec tX9_hiding 73 rfl) hl (k := 7) rfl (by decide) (by decide) (fun _ => rfl) (fun x5 ex5 ls hl => ?_)
      have h := h x5 ex5
      refine lv_goto (tgt := 48) hx hb (kn_dec tX9_hiding 74 rfl) (by decide) ?_
      exact hK48 _ _ _ _ _ _ _ _ _ _ hz_y5 I (lv_sub hl [2, 3, 4, 5, 6, 7, 0] rfl) h
    · have h := h.2 c4
      refine lv_iload hx hb (kn_dec tX9_hiding 63 rfl) (lv_at hl 0 rfl) ?_
      refine lv_if_eq (tgt := 139) hx hb (kn_dec tX9_hiding 64 rfl) (by decide) (fun c6 => ?_) (fun c6 => ?_)
      · have h := h.1 c6
        refine kw_iinc (lvf := fun y => [(6, .int y), (8, .int _), (0, .ref (ad_m 0)), (1, .int _), (2, .int _), (3, .int _), (4, .int _), (5, .int _), (7, .int _)]) (nv := (1)) hx hb (kn_dec tX9_hiding 73 rfl) hl (k := 7) rfl (by decide) (by decide) (fun _ => rfl) (fun x7 ex7 ls hl => ?_)
        have h := h x7 ex7
        refine lv_goto (tgt := 48) hx hb (kn_dec tX9_hiding 74 rfl) (by decide) ?_
        exact hK48 _ _ _ _ _ _ _ _ _ _ hz_y5 I (lv_sub hl [2, 3, 4, 5, 6, 7, 0] rfl) h
      · have h := h.2 c6
        refine lv_iload hx hb (kn_dec tX9_hiding 65 rfl) (lv_at hl 6 rfl) ?_
        refine lv_if_ne (tgt := 139) hx hb (kn_dec tX9_hiding 66 rfl) (by decide) (fun c8 => ?_) (fun c8 => ?_)
        · have h := h.1 c8
          refine kw_iinc (lvf := fun y => [(6, .int y), (8, .int _), (0, .ref (ad_m 0)), (1, .int _), (2, .int _), (3, .int _), (4, .int _), (5, .int _), (7, .int _)]) (nv := (1)) hx hb (kn_dec tX9_hiding 73 rfl) hl (k := 7) rfl (by decide) (by decide) (fun _ => rfl) (fun x9 ex9 ls hl => ?_)
          have h := h x9 ex9
          refine lv_goto (tgt := 48) hx hb (kn_dec tX9_hiding 74 rfl) (by decide) ?_
          exact hK48 _ _ _ _ _ _ _ _ _ _ hz_y5 I (lv_sub hl [2, 3, 4, 5, 6, 7, 0] rfl) h
        · have h := h.2 c8
          exact wX9_hiding_b128 X hK48 _ _ _ _ _ _ _ _ _ hz_t0 I (lv_sub hl [1, 2, 3, 7, 8, 0] rfl) h
def PX9_hiding_L48   (post : Int32 → OV → Prop) : Nat → Int32 → Int32 → Int32 → Int32 → Int32 → Int32 → OV → Prop
  | 0, _, _, _, _, _, _, _ => False
  | n + 1, y1, y2, y3, y4, y5, y6, v_m => (((v_m.2.1 1 ((3 : Int32)).toNatClampNeg) ≤ y6 → ((¬ y2 = ((0 : Int32)) → post y4 v_m) ∧ (y2 = ((0 : Int32)) → post y3 v_m))) ∧ (¬ (v_m.2.1 1 ((3 : Int32)).toNatClampNeg) ≤ y6 → (∀ v_m3 : OV, v_m3 = sa v_m 1 (upd (v_m.2.1 1) ((7 : Int32)).toNatClampNeg y6) → (PX9_goFor v_m3 y1 (fun v_m4 => (PX9_foundBy v_m4 (fun r6 => (PX9_bits r6 (fun r8 => (((v_m4.2.1 1 ((7 : Int32)).toNatClampNeg) = ((-1 : Int32)) → PX9_hiding_b98 (PX9_hiding_L48 post n) post ((0 : Int32)) y1 y2 y3 y4 y5 y6 r8 v_m4) ∧ (¬ (v_m4.2.1 1 ((7 : Int32)).toNatClampNeg) = ((-1 : Int32)) → PX9_hiding_b98 (PX9_hiding_L48 post n) post ((1 : Int32)) y1 y2 y3 y4 y5 y6 r8 v_m4)))))))))))
set_option maxRecDepth 100000 in
set_option maxHeartbeats 1000000 in
theorem wX9_hiding_L48   {post : Int32 → OV → Prop} {ad_m : Nat → Nat} (X : kn_X p s m args meth c cX9_hiding 9 (some .int) RX9 kn_all D tc Z (kn_A w0 s.heap.size))    : ∀ n : Nat, ∀ (H : Heap) (locs : List Loc) (ls : Array Slot) (y1 : Int32) (y2 : Int32) (y3 : Int32) (y4 : Int32) (y5 : Int32) (y6 : Int32) (v_m : OV), (hz_y5 : y5 = 0 ∨ y5 = 1) → kn_I D tc (kn_A w0 s.heap.size) s.heap [(kModel, ad_m, v_m)] H locs → lv_has ls 9 [(0, .ref (ad_m 0)), (1, .int y1), (2, .int y2), (3, .int y3), (4, .int y4), (5, .int y5), (6, .int y6)] → PX9_hiding_L48 post n y1 y2 y3 y4 y5 y6 v_m → W p l e rmX9_hiding s m args below meth c H locs 0 0 (kn_Qi D tc w0 (fun (u : OV) => [(kModel, ad_m, u)]) (fun (r : Int32) (u : OV) => post r u) below args s 0 0) (F0 m 48 ls []) := by
  obtain ⟨S0, hr, hlocks, hK, hZ, hA⟩ := id X
  obtain ⟨hx, hb, hml, hown, hts⟩ := id S0
  intro n
  induction n with
  | zero =>
    intro H locs ls y1 y2 y3 y4 y5 y6 v_m hz_y5 I hl h
    unfold PX9_hiding_L48 at h
    exact h.elim
  | succ n ih =>
    intro H locs ls y1 y2 y3 y4 y5 y6 v_m hz_y5 I hl h
    unfold PX9_hiding_L48 at h
    refine lv_iload hx hb (kn_dec tX9_hiding 27 rfl) (lv_at hl 6 rfl) ?_
    refine lv_aload_n hx hb (kn_dec tX9_hiding 28 rfl) rfl (lv_at hl 0 rfl) ?_
    refine kw_getl hx hb hts inX9 hown hK I 0 rfl rfl 1 (by decide) rfl (hts _ q4_201) (kn_dec tX9_hiding 29 rfl) rfl ?_
    refine lv_iconst (v := (3)) hx hb (kn_dec tX9_hiding 30 rfl) (by decide) ?_
    refine kw_iald hx hb hK I 0 rfl 1 12 (List.mem_of_getElem? (i := 0) rfl) (by unfold vp_in; decide) (kn_dec tX9_hiding 31 rfl) ?_
    refine lv_icmp_ge (tgt := 145) hx hb (kn_dec tX9_hiding 32 rfl) (by decide) (fun c1 => ?_) (fun c1 => ?_)
    · have h := h.1 c1
      refine lv_iload_n hx hb (kn_dec tX9_hiding 75 rfl) rfl (lv_at hl 2 rfl) ?_
      refine lv_if_ne (tgt := 153) hx hb (kn_dec tX9_hiding 76 rfl) (by decide) (fun c2 => ?_) (fun c2 => ?_)
      · have h := h.1 c2
        refine lv_iload hx hb (kn_dec tX9_hiding 79 rfl) (lv_at hl 4 rfl) ?_
        exact kw_iret hx hb hr hlocks I _ rfl h (kn_dec tX9_hiding 80 rfl)
      · have h := h.2 c2
        refine lv_iload_n hx hb (kn_dec tX9_hiding 77 rfl) rfl (lv_at hl 3 rfl) ?_
        refine lv_goto (tgt := 155) hx hb (kn_dec tX9_hiding 78 rfl) (by decide) ?_
        exact kw_iret hx hb hr hlocks I _ rfl h (kn_dec tX9_hiding 80 rfl)
    · have h := h.2 c1
      refine lv_aload_n hx hb (kn_dec tX9_hiding 33 rfl) rfl (lv_at hl 0 rfl) ?_
      refine kw_getl hx hb hts inX9 hown hK I 0 rfl rfl 1 (by decide) rfl (hts _ q4_201) (kn_dec tX9_hiding 34 rfl) rfl ?_
      refine lv_bipush (v := (7)) hx hb (kn_dec tX9_hiding 35 rfl) (by decide) ?_
      refine lv_iload hx hb (kn_dec tX9_hiding 36 rfl) (lv_at hl 6 rfl) ?_
      refine kw_iast hx hb hK I 0 rfl 1 12 (List.mem_of_getElem? (i := 0) rfl) ukModel_1 (by unfold vp_in; decide) (kn_dec tX9_hiding 37 rfl) (fun v_m3 ev_m3 H locs I => ?_)
      have h := h v_m3 ev_m3
      have I : kn_I D tc (kn_A w0 s.heap.size) s.heap [(kModel, ad_m, _)] _ _ := I
      refine lv_aload_n hx hb (kn_dec tX9_hiding 38 rfl) rfl (lv_at hl 0 rfl) ?_
      refine lv_iload_n hx hb (kn_dec tX9_hiding 39 rfl) rfl (lv_at hl 1 rfl) ?_
      refine kw_callv (wc := [(kModel, ad_m, _)]) (wr := []) I hA [0] [] rfl rfl (by decide) (by decide) (kn_runV (As := [.int _]) S0 hK hZ hA I ((ctX9_goFor h).met _) (kn_cwV 1 hts q7_9 q7_11 q0_81 q1_10 q7_12 rfl rfl (by decide +kernel) ⟨(Nat.le_of_ble_eq_true rfl), (Nat.le_of_ble_eq_true rfl)⟩) [0] rfl (by decide) 0 rfl rfl rfl rfl hl.1 rfl (Nat.le_of_ble_eq_true rfl) (kn_dec tX9_hiding 40 rfl) ⟨(Nat.le_of_ble_eq_true rfl), (Nat.le_of_ble_eq_true rfl)⟩) (fun u5 H locs h I => ?_)
      have I : kn_I D tc (kn_A w0 s.heap.size) s.heap [(kModel, ad_m, _)] _ _ := I
      refine lv_aload_n hx hb (kn_dec tX9_hiding 41 rfl) rfl (lv_at hl 0 rfl) ?_
      refine kw_calli (wc := [(kModel, ad_m, _)]) (wr := []) I hA [0] [] rfl rfl (by decide) (by decide) (kn_runV (As := []) S0 hK hZ hA I ((ctX9_foundBy h).met _) (kn_cwV 0 hts q6_178 q6_180 q0_71 q1_10 q6_181 rfl rfl (by decide +kernel) ⟨(Nat.le_of_ble_eq_true rfl), (Nat.le_of_ble_eq_true rfl)⟩) [0] rfl (by decide) 0 rfl rfl rfl rfl hl.1 rfl (Nat.le_of_ble_eq_true rfl) (kn_dec tX9_hiding 42 rfl) ⟨(Nat.le_of_ble_eq_true rfl), (Nat.le_of_ble_eq_true rfl)⟩) (fun r6 u7 H locs h I => ?_)
      have I : kn_I D tc (kn_A w0 s.heap.size) s.heap [(kModel, ad_m, _)] _ _ := I
      refine kw_calli (wc := []) (wr := [(kModel, ad_m, _)]) I hA [] [0] rfl rfl (by decide) (by decide) (kn_runS (As := [.int _]) S0 hK hZ hA I ((ctX9_bits h).met _) (kn_cwS 1 hts q6_182 q6_183 q1_10 q6_184 rfl rfl (by decide +kernel) ⟨(Nat.le_of_ble_eq_true rfl), (Nat.le_of_ble_eq_true rfl)⟩) [] rfl (by decide) rfl hl.1 rfl (Nat.le_of_ble_eq_true rfl) (kn_dec tX9_hiding 43 rfl) ⟨(Nat.le_of_ble_eq_true rfl), (Nat.le_of_ble_eq_true rfl)⟩) (fun r8 u9 H locs h I => ?_)
      have I : kn_I D tc (kn_A w0 s.heap.size) s.heap [(kModel, ad_m, _)] _ _ := I
      refine lv_istore (lv' := [(7, .int _), (0, .ref (ad_m 0)), (1, .int _), (2, .int _), (3, .int _), (4, .int _), (5, .int _), (6, .int _)]) hx hb (kn_dec tX9_hiding 44 rfl) hl (by decide) rfl (fun ls hl => ?_)
      refine lv_aload_n hx hb (kn_dec tX9_hiding 45 rfl) rfl (lv_at hl 1 rfl) ?_
      refine kw_getl hx hb hts inX9 hown hK I 0 rfl rfl 1 (by decide) rfl (hts _ q4_201) (kn_dec tX9_hiding 46 rfl) rfl ?_
      refine lv_bipush (v := (7)) hx hb (kn_dec tX9_hiding 47 rfl) (by decide) ?_
      refine kw_iald hx hb hK I 0 rfl 1 12 (List.mem_of_getElem? (i := 0) rfl) (by unfold vp_in; decide) (kn_dec tX9_hiding 48 rfl) ?_
      refine lv_iconst (v := (-1)) hx hb (kn_dec tX9_hiding 49 rfl) (by decide) ?_
      refine lv_icmp_eq (tgt := 97) hx hb (kn_dec tX9_hiding 50 rfl) (by decide) (fun c10 => ?_) (fun c10 => ?_)
      · have h := h.1 c10
        refine lv_iconst (v := (0)) hx hb (kn_dec tX9_hiding 53 rfl) (by decide) ?_
        exact wX9_hiding_b98 X ih _ _ _ _ _ _ _ _ _ _ _ _ (Or.inl rfl) hz_y5 I (lv_sub hl [1, 2, 3, 4, 5, 6, 7, 0] rfl) h
      · have h := h.2 c10
        refine lv_iconst (v := (1)) hx hb (kn_dec tX9_hiding 51 rfl) (by decide) ?_
        refine lv_goto (tgt := 98) hx hb (kn_dec tX9_hiding 52 rfl) (by decide) ?_
        exact wX9_hiding_b98 X ih _ _ _ _ _ _ _ _ _ _ _ _ (Or.inr rfl) hz_y5 I (lv_sub hl [1, 2, 3, 4, 5, 6, 7, 0] rfl) h
def PX9_hiding  (v_m : OV) (a1 : Int32) (a2 : Int32) (post : Int32 → OV → Prop) : Prop := (PX9_isHill v_m (fun r1 => ((r1 = ((0 : Int32)) → post ((-1 : Int32)) v_m) ∧ (¬ r1 = ((0 : Int32)) → (PX9_in a1.toInt64 ((1 : Int64)) ((60 : Int64)) (fun r4 => ((r4 = ((0 : Int32)) → post ((-1 : Int32)) v_m) ∧ (¬ r4 = ((0 : Int32)) → (PX9_in a2.toInt64 ((0 : Int64)) ((1 : Int64)) (fun r7 => ((¬ r7 = ((0 : Int32)) → (PX9_keepsAll v_m (fun v_m10 => (∃ n12 : Nat, PX9_hiding_L48 post n12 a1 a2 ((-2 : Int32)) ((-2 : Int32)) ((0 : Int32)) ((0 : Int32)) v_m10)))) ∧ (r7 = ((0 : Int32)) → post ((-1 : Int32)) v_m))))))))))))
set_option maxRecDepth 100000 in
set_option maxHeartbeats 1000000 in
theorem ctX9_hiding {l : Launch} {D : va_G} {tc : Nat → ClassId} {Z : (Nat → Nat) × (Nat → Nat)}  {ad_m : Nat → Nat} {v_m : OV} {a1 : Int32} {a2 : Int32}    {post : Int32 → OV → Prop} (h : PX9_hiding  v_m a1 a2 post) : CTi l D tc Z yX9_hiding (Cond.code yX9_hiding cX9_hiding 9 (some .int) :: kn_all) rmX9_hiding 0 0 [.ref (ad_m 0), .int a1, .int a2] [(kModel, ad_m, v_m)] (fun (u : OV) => [(kModel, ad_m, u)]) (fun (r : Int32) (u : OV) => post r u) := by
  refine kn_ofi (cc := cX9_hiding) (nL := 9) (ret := (some .int)) (lv := [(0, .ref (ad_m 0)), (1, .int a1), (2, .int a2)]) (by decide) (Nat.le_of_ble_eq_true rfl) rfl (fun p e s m below meth c ls X I hl _ => ?_)
  obtain ⟨S0, hr, hlocks, hK, hZ, hA⟩ := id X
  obtain ⟨hx, hb, hml, hown, hts⟩ := id S0
  unfold PX9_hiding at h
  refine lv_aload_n hx hb (kn_dec tX9_hiding 0 rfl) rfl (lv_at hl 0 rfl) ?_
  refine kw_calli (wc := [(kModel, ad_m, _)]) (wr := []) I hA [0] [] rfl rfl (by decide) (by decide) (kn_runV (As := []) S0 hK hZ hA I ((ctX9_isHill h).met _) (kn_cwV 0 hts q6_147 q6_149 q0_64 q1_10 q6_150 rfl rfl (by decide +kernel) ⟨(Nat.le_of_ble_eq_true rfl), (Nat.le_of_ble_eq_true rfl)⟩) [0] rfl (by decide) 0 rfl rfl rfl rfl hl.1 rfl (Nat.le_of_ble_eq_true rfl) (kn_dec tX9_hiding 1 rfl) ⟨(Nat.le_of_ble_eq_true rfl), (Nat.le_of_ble_eq_true rfl)⟩) (fun r1 u2 H locs h I => ?_)
  obtain ⟨hz_r1, h⟩ := h
  have I : kn_I D tc (kn_A _ s.heap.size) s.heap [(kModel, ad_m, _)] _ _ := I
  refine lv_if_eq (tgt := 29) hx hb (kn_dec tX9_hiding 2 rfl) (by decide) (fun c3 => ?_) (fun c3 => ?_)
  · have h := h.1 c3
    refine lv_iconst (v := (-1)) hx hb (kn_dec tX9_hiding 15 rfl) (by decide) ?_
    exact kw_iret hx hb hr hlocks I _ rfl h (kn_dec tX9_hiding 16 rfl)
  · have h := h.2 c3
    refine lv_iload_n hx hb (kn_dec tX9_hiding 3 rfl) rfl (lv_at hl 1 rfl) ?_
    refine lv_i2l hx hb (kn_dec tX9_hiding 4 rfl) rfl ?_
    refine lv_lconst (v := 1) hx hb (kn_dec tX9_hiding 5 rfl) (by decide) ?_
    refine lv_ldc2 (v := (60)) hx hb hown (hts _ q7_29) (kn_dec tX9_hiding 6 rfl) ?_
    refine kw_calli (wc := []) (wr := [(kModel, ad_m, _)]) I hA [] [0] rfl rfl (by decide) (by decide) (kn_runS (As := [.long _, .long _, .long _]) S0 hK hZ hA I ((ctX9_in h).met _) (kn_cwS 3 hts q6_1 q6_2 q1_10 q6_3 rfl rfl (by decide +kernel) ⟨(Nat.le_of_ble_eq_true rfl), (Nat.le_of_ble_eq_true rfl)⟩) [] rfl (by decide) rfl hl.1 rfl (Nat.le_of_ble_eq_true rfl) (kn_dec tX9_hiding 7 rfl) ⟨(Nat.le_of_ble_eq_true rfl), (Nat.le_of_ble_eq_true rfl)⟩) (fun r4 u5 H locs h I => ?_)
    obtain ⟨hz_r4, h⟩ := h
    have I : kn_I D tc (kn_A _ s.heap.size) s.heap [(kModel, ad_m, _)] _ _ := I
    refine lv_if_eq (tgt := 29) hx hb (kn_dec tX9_hiding 8 rfl) (by decide) (fun c6 => ?_) (fun c6 => ?_)
    · have h := h.1 c6
      refine lv_iconst (v := (-1)) hx hb (kn_dec tX9_hiding 15 rfl) (by decide) ?_
      exact kw_iret hx hb hr hlocks I _ rfl h (kn_dec tX9_hiding 16 rfl)
    · have h := h.2 c6
      refine lv_iload_n hx hb (kn_dec tX9_hiding 9 rfl) rfl (lv_at hl 2 rfl) ?_
      refine lv_i2l hx hb (kn_dec tX9_hiding 10 rfl) rfl ?_
      refine lv_lconst (v := 0) hx hb (kn_dec tX9_hiding 11 rfl) (by decide) ?_
      refine lv_lconst (v := 1) hx hb (kn_dec tX9_hiding 12 rfl) (by decide) ?_
      refine kw_calli (wc := []) (wr := [(kModel, ad_m, _)]) I hA [] [0] rfl rfl (by decide) (by decide) (kn_runS (As := [.long _, .long _, .long _]) S0 hK hZ hA I ((ctX9_in h).met _) (kn_cwS 3 hts q6_1 q6_2 q1_10 q6_3 rfl rfl (by decide +kernel) ⟨(Nat.le_of_ble_eq_true rfl), (Nat.le_of_ble_eq_true rfl)⟩) [] rfl (by decide) rfl hl.1 rfl (Nat.le_of_ble_eq_true rfl) (kn_dec tX9_hiding 13 rfl) ⟨(Nat.le_of_ble_eq_true rfl), (Nat.le_of_ble_eq_true rfl)⟩) (fun r7 u8 H locs h I => ?_)
      obtain ⟨hz_r7, h⟩ := h
      have I : kn_I D tc (kn_A _ s.heap.size) s.heap [(kModel, ad_m, _)] _ _ := I
      refine lv_if_ne (tgt := 31) hx hb (kn_dec tX9_hiding 14 rfl) (by decide) (fun c9 => ?_) (fun c9 => ?_)
      · have h := h.1 c9
        refine lv_bipush (v := (-2)) hx hb (kn_dec tX9_hiding 17 rfl) (by decide) ?_
        refine lv_istore_n (lv' := [(3, .int _), (0, .ref (ad_m 0)), (1, .int _), (2, .int _)]) hx hb (kn_dec tX9_hiding 18 rfl) rfl hl (by decide) rfl (fun ls hl => ?_)
        refine lv_bipush (v := (-2)) hx hb (kn_dec tX9_hiding 19 rfl) (by decide) ?_
        refine lv_istore (lv' := [(4, .int _), (3, .int _), (0, .ref (ad_m 0)), (1, .int _), (2, .int _)]) hx hb (kn_dec tX9_hiding 20 rfl) hl (by decide) rfl (fun ls hl => ?_)
        refine lv_iconst (v := (0)) hx hb (kn_dec tX9_hiding 21 rfl) (by decide) ?_
        refine lv_istore (lv' := [(5, .int _), (4, .int _), (3, .int _), (0, .ref (ad_m 0)), (1, .int _), (2, .int _)]) hx hb (kn_dec tX9_hiding 22 rfl) hl (by decide) rfl (fun ls hl => ?_)
        refine lv_aload_n hx hb (kn_dec tX9_hiding 23 rfl) rfl (lv_at hl 3 rfl) ?_
        refine kw_callv (wc := [(kModel, ad_m, _)]) (wr := []) I hA [0] [] rfl rfl (by decide) (by decide) (kn_runV (As := []) S0 hK hZ hA I ((ctX9_keepsAll h).met _) (kn_cwV 0 hts q6_237 q6_239 q0_78 q1_10 q7_0 rfl rfl (by decide +kernel) ⟨(Nat.le_of_ble_eq_true rfl), (Nat.le_of_ble_eq_true rfl)⟩) [0] rfl (by decide) 0 rfl rfl rfl rfl hl.1 rfl (Nat.le_of_ble_eq_true rfl) (kn_dec tX9_hiding 24 rfl) ⟨(Nat.le_of_ble_eq_true rfl), (Nat.le_of_ble_eq_true rfl)⟩) (fun u11 H locs h I => ?_)
        have I : kn_I D tc (kn_A _ s.heap.size) s.heap [(kModel, ad_m, _)] _ _ := I
        refine lv_iconst (v := (0)) hx hb (kn_dec tX9_hiding 25 rfl) (by decide) ?_
        refine lv_istore (lv' := [(6, .int _), (5, .int _), (4, .int _), (3, .int _), (0, .ref (ad_m 0)), (1, .int _), (2, .int _)]) hx hb (kn_dec tX9_hiding 26 rfl) hl (by decide) rfl (fun ls hl => ?_)
        obtain ⟨n12, h⟩ := h
        exact wX9_hiding_L48 X n12 _ _ _ _ _ _ _ _ _ _ (Or.inl rfl) I (lv_sub hl [4, 5, 6, 3, 2, 1, 0] rfl) h
      · have h := h.2 c9
        refine lv_iconst (v := (-1)) hx hb (kn_dec tX9_hiding 15 rfl) (by decide) ?_
        exact kw_iret hx hb hr hlocks I _ rfl h (kn_dec tX9_hiding 16 rfl)

/-! X9_allOdds -/
abbrev rmX9_allOdds : Room := { frames := 0, cells := 0, slots := 0, locals := 0 }
def PX9_allOdds_L4 (v_m : OV)  (post : Int32 → Prop) : Nat → Int32 → Int32 → Prop
  | 0, _, _ => False
  | n + 1, y1, y2 => (((v_m.2.1 1 ((3 : Int32)).toNatClampNeg) ≤ y2 → post y1) ∧ (¬ (v_m.2.1 1 ((3 : Int32)).toNatClampNeg) ≤ y2 → (vp_in y2 10 ∧ (∀ x3 : Int32, x3 = (y1 + (v_m.2.1 4 y2.toNatClampNeg)) → (∀ x4 : Int32, x4 = y2 + (1 : Int32) → PX9_allOdds_L4 v_m post n x3 x4)))))
set_option maxRecDepth 100000 in
set_option maxHeartbeats 1000000 in
theorem wX9_allOdds_L4 {v_m : OV}  {post : Int32 → Prop} {ad_m : Nat → Nat} (X : kn_X p s m args meth c cX9_allOdds 3 (some .int) RX9 kn_all D tc Z (kn_A w0 s.heap.size))    : ∀ n : Nat, ∀ (H : Heap) (locs : List Loc) (ls : Array Slot) (y1 : Int32) (y2 : Int32), kn_I D tc (kn_A w0 s.heap.size) s.heap [(kModel, ad_m, v_m)] H locs → lv_has ls 3 [(0, .ref (ad_m 0)), (1, .int y1), (2, .int y2)] → PX9_allOdds_L4 v_m post n y1 y2 → W p l e rmX9_allOdds s m args below meth c H locs 0 0 (kn_Qi D tc w0 (fun (u : Unit) => [(kModel, ad_m, v_m)]) (fun (r : Int32) (u : Unit) => post r) below args s 0 0) (F0 m 4 ls []) := by
  obtain ⟨S0, hr, hlocks, hK, hZ, hA⟩ := id X
  obtain ⟨hx, hb, hml, hown, hts⟩ := id S0
  intro n
  induction n with
  | zero =>
    intro H locs ls y1 y2 I hl h
    unfold PX9_allOdds_L4 at h
    exact h.elim
  | succ n ih =>
    intro H locs ls y1 y2 I hl h
    unfold PX9_allOdds_L4 at h
    refine lv_iload_n hx hb (kn_dec tX9_allOdds 4 rfl) rfl (lv_at hl 2 rfl) ?_
    refine lv_aload_n hx hb (kn_dec tX9_allOdds 5 rfl) rfl (lv_at hl 0 rfl) ?_
    refine kw_getl hx hb hts inX9 hown hK I 0 rfl rfl 1 (by decide) rfl (hts _ q4_201) (kn_dec tX9_allOdds 6 rfl) rfl ?_
    refine lv_iconst (v := (3)) hx hb (kn_dec tX9_allOdds 7 rfl) (by decide) ?_
    refine kw_iald hx hb hK I 0 rfl 1 12 (List.mem_of_getElem? (i := 0) rfl) (by unfold vp_in; decide) (kn_dec tX9_allOdds 8 rfl) ?_
    refine lv_icmp_ge (tgt := 29) hx hb (kn_dec tX9_allOdds 9 rfl) (by decide) (fun c1 => ?_) (fun c1 => ?_)
    · have h := h.1 c1
      refine lv_iload_n hx hb (kn_dec tX9_allOdds 19 rfl) rfl (lv_at hl 1 rfl) ?_
      exact kw_iret hx hb hr hlocks I () rfl h (kn_dec tX9_allOdds 20 rfl)
    · have h := h.2 c1
      refine lv_iload_n hx hb (kn_dec tX9_allOdds 10 rfl) rfl (lv_at hl 1 rfl) ?_
      refine lv_aload_n hx hb (kn_dec tX9_allOdds 11 rfl) rfl (lv_at hl 0 rfl) ?_
      refine kw_getl hx hb hts inX9 hown hK I 0 rfl rfl 4 (by decide) rfl (hts _ q4_204) (kn_dec tX9_allOdds 12 rfl) rfl ?_
      refine lv_iload_n hx hb (kn_dec tX9_allOdds 13 rfl) rfl (lv_at hl 2 rfl) ?_
      obtain ⟨hs2, h⟩ := h
      refine kw_iald hx hb hK I 0 rfl 4 10 (List.mem_of_getElem? (i := 3) rfl) hs2 (kn_dec tX9_allOdds 14 rfl) ?_
      refine lv_iadd hx hb (kn_dec tX9_allOdds 15 rfl) ?_
      refine lv_topi (fun x3 ex3 => ?_)
      have h := h x3 ex3
      refine lv_istore_n (lv' := [(1, .int _), (0, .ref (ad_m 0)), (2, .int _)]) hx hb (kn_dec tX9_allOdds 16 rfl) rfl hl (by decide) rfl (fun ls hl => ?_)
      refine kw_iinc (lvf := fun y => [(2, .int y), (1, .int _), (0, .ref (ad_m 0))]) (nv := (1)) hx hb (kn_dec tX9_allOdds 17 rfl) hl (k := 2) rfl (by decide) (by decide) (fun _ => rfl) (fun x4 ex4 ls hl => ?_)
      have h := h x4 ex4
      refine lv_goto (tgt := 4) hx hb (kn_dec tX9_allOdds 18 rfl) (by decide) ?_
      exact ih _ _ _ _ _  I (lv_sub hl [2, 1, 0] rfl) h
def PX9_allOdds  (v_m : OV) (post : Int32 → Prop) : Prop := (∃ n1 : Nat, PX9_allOdds_L4 v_m post n1 ((0 : Int32)) ((0 : Int32)))
set_option maxRecDepth 100000 in
set_option maxHeartbeats 1000000 in
theorem ctX9_allOdds {l : Launch} {D : va_G} {tc : Nat → ClassId} {Z : (Nat → Nat) × (Nat → Nat)}  {ad_m : Nat → Nat} {v_m : OV}    {post : Int32 → Prop} (h : PX9_allOdds  v_m post) : CTi l D tc Z yX9_allOdds (Cond.code yX9_allOdds cX9_allOdds 3 (some .int) :: kn_all) rmX9_allOdds 0 0 [.ref (ad_m 0)] [(kModel, ad_m, v_m)] (fun (u : Unit) => [(kModel, ad_m, v_m)]) (fun (r : Int32) (u : Unit) => post r) := by
  refine kn_ofi (cc := cX9_allOdds) (nL := 3) (ret := (some .int)) (lv := [(0, .ref (ad_m 0))]) (by decide) (Nat.le_of_ble_eq_true rfl) rfl (fun p e s m below meth c ls X I hl _ => ?_)
  obtain ⟨S0, hr, hlocks, hK, hZ, hA⟩ := id X
  obtain ⟨hx, hb, hml, hown, hts⟩ := id S0
  unfold PX9_allOdds at h
  refine lv_iconst (v := (0)) hx hb (kn_dec tX9_allOdds 0 rfl) (by decide) ?_
  refine lv_istore_n (lv' := [(1, .int _), (0, .ref (ad_m 0))]) hx hb (kn_dec tX9_allOdds 1 rfl) rfl hl (by decide) rfl (fun ls hl => ?_)
  refine lv_iconst (v := (0)) hx hb (kn_dec tX9_allOdds 2 rfl) (by decide) ?_
  refine lv_istore_n (lv' := [(2, .int _), (1, .int _), (0, .ref (ad_m 0))]) hx hb (kn_dec tX9_allOdds 3 rfl) rfl hl (by decide) rfl (fun ls hl => ?_)
  obtain ⟨n1, h⟩ := h
  exact wX9_allOdds_L4 X n1 _ _ _ _ _  I (lv_sub hl [2, 1, 0] rfl) h

/-! X9_laysOrder -/
abbrev rmX9_laysOrder : Room := { frames := 1, cells := 0, slots := 0, locals := 23 }
def PX9_laysOrder_b98  (K4 : Int32 → Int32 → Int32 → OV → Prop) (post : Int32 → OV → Prop) (y1 : Int32) (y2 : Int32) (y3 : Int32) (y4 : Int32) (v_m : OV) : Prop := (vp_in y4 10 ∧ (∀ v_m2 : OV, v_m2 = sa v_m 60 (upd (v_m.2.1 60) y4.toNatClampNeg y3) → (∀ x3 : Int32, x3 = y2 + (1 : Int32) → (∀ x4 : Int32, x4 = y3 + (1 : Int32) → K4 y1 x3 x4 v_m2))))
set_option maxRecDepth 100000 in
set_option maxHeartbeats 1000000 in
theorem wX9_laysOrder_b98  {K4 : Int32 → Int32 → Int32 → OV → Prop} {post : Int32 → OV → Prop} {ad_m : Nat → Nat} (X : kn_X p s m args meth c cX9_laysOrder 5 (some .int) RX9 kn_all D tc Z (kn_A w0 s.heap.size))   (hK4 : ∀ (H : Heap) (locs : List Loc) (ls : Array Slot) (y1 : Int32) (y2 : Int32) (y3 : Int32) (v_m : OV), kn_I D tc (kn_A w0 s.heap.size) s.heap [(kModel, ad_m, v_m)] H locs → lv_has ls 5 [(0, .ref (ad_m 0)), (1, .int y1), (2, .int y2), (3, .int y3)] → K4 y1 y2 y3 v_m → W p l e rmX9_laysOrder s m args below meth c H locs 0 0 (kn_Qi D tc w0 (fun (u : OV) => [(kModel, ad_m, u)]) (fun (r : Int32) (u : OV) => post r u) below args s 0 0) (F0 m 4 ls [])) : ∀ (H : Heap) (locs : List Loc) (ls : Array Slot) (y1 : Int32) (y2 : Int32) (y3 : Int32) (y4 : Int32) (v_m : OV), kn_I D tc (kn_A w0 s.heap.size) s.heap [(kModel, ad_m, v_m)] H locs → lv_has ls 5 [(0, .ref (ad_m 0)), (1, .int y1), (2, .int y2), (3, .int y3), (4, .int y4)] → PX9_laysOrder_b98 K4 post y1 y2 y3 y4 v_m → W p l e rmX9_laysOrder s m args below meth c H locs 0 0 (kn_Qi D tc w0 (fun (u : OV) => [(kModel, ad_m, u)]) (fun (r : Int32) (u : OV) => post r u) below args s 0 0) (F0 m 98 ls []) := by
  obtain ⟨S0, hr, hlocks, hK, hZ, hA⟩ := id X
  obtain ⟨hx, hb, hml, hown, hts⟩ := id S0
  intro H locs ls y1 y2 y3 y4 v_m I hl h
  unfold PX9_laysOrder_b98 at h
  refine lv_aload_n hx hb (kn_dec tX9_laysOrder 60 rfl) rfl (lv_at hl 0 rfl) ?_
  refine kw_getl hx hb hts inX9 hown hK I 0 rfl rfl 60 (by decide) rfl (hts _ q5_20) (kn_dec tX9_laysOrder 61 rfl) rfl ?_
  refine lv_iload hx hb (kn_dec tX9_laysOrder 62 rfl) (lv_at hl 4 rfl) ?_
  refine lv_iload_n hx hb (kn_dec tX9_laysOrder 63 rfl) rfl (lv_at hl 3 rfl) ?_
  obtain ⟨hs1, h⟩ := h
  refine kw_iast hx hb hK I 0 rfl 60 10 (List.mem_of_getElem? (i := 43) rfl) ukModel_60 hs1 (kn_dec tX9_laysOrder 64 rfl) (fun v_m2 ev_m2 H locs I => ?_)
  have h := h v_m2 ev_m2
  have I : kn_I D tc (kn_A w0 s.heap.size) s.heap [(kModel, ad_m, _)] _ _ := I
  refine kw_iinc (lvf := fun y => [(2, .int y), (0, .ref (ad_m 0)), (1, .int _), (3, .int _), (4, .int _)]) (nv := (1)) hx hb (kn_dec tX9_laysOrder 65 rfl) hl (k := 2) rfl (by decide) (by decide) (fun _ => rfl) (fun x3 ex3 ls hl => ?_)
  have h := h x3 ex3
  refine kw_iinc (lvf := fun y => [(3, .int y), (2, .int _), (0, .ref (ad_m 0)), (1, .int _), (4, .int _)]) (nv := (1)) hx hb (kn_dec tX9_laysOrder 66 rfl) hl (k := 3) rfl (by decide) (by decide) (fun _ => rfl) (fun x4 ex4 ls hl => ?_)
  have h := h x4 ex4
  refine lv_goto (tgt := 4) hx hb (kn_dec tX9_laysOrder 67 rfl) (by decide) ?_
  exact hK4 _ _ _ _ _ _ _  I (lv_sub hl [2, 3, 1, 0] rfl) h
def PX9_laysOrder_L26  (K4 : Int32 → Int32 → Int32 → OV → Prop) (post : Int32 → OV → Prop) : Nat → Int32 → Int32 → Int32 → Int32 → OV → Prop
  | 0, _, _, _, _, _ => False
  | n + 1, y1, y2, y3, y4, v_m => ((y4 ≤ ((0 : Int32)) → PX9_laysOrder_b98 K4 post y1 y2 y3 y4 v_m) ∧ (¬ y4 ≤ ((0 : Int32)) → (vp_in y3 10 ∧ (vp_in (y4 - ((1 : Int32))) 10 ∧ (PX9_minutesOf v_m y1 (v_m.2.1 60 (y4 - ((1 : Int32))).toNatClampNeg) (fun r4 => (vp_in (y4 - ((1 : Int32))) 10 ∧ (vp_in (v_m.2.1 60 (y4 - ((1 : Int32))).toNatClampNeg) 10 ∧ (PX9_minutesOf v_m y1 y3 (fun r8 => ((((v_m.2.1 4 y3.toNatClampNeg) * r4) ≤ ((v_m.2.1 4 (v_m.2.1 60 (y4 - ((1 : Int32))).toNatClampNeg).toNatClampNeg) * r8) → PX9_laysOrder_b98 K4 post y1 y2 y3 y4 v_m) ∧ (¬ ((v_m.2.1 4 y3.toNatClampNeg) * r4) ≤ ((v_m.2.1 4 (v_m.2.1 60 (y4 - ((1 : Int32))).toNatClampNeg).toNatClampNeg) * r8) → (vp_in (y4 - ((1 : Int32))) 10 ∧ (∀ x12 : Int32, x12 = (v_m.2.1 60 (y4 - ((1 : Int32))).toNatClampNeg) → (vp_in y4 10 ∧ (∀ v_m14 : OV, v_m14 = sa v_m 60 (upd (v_m.2.1 60) y4.toNatClampNeg x12) → (∀ x15 : Int32, x15 = y4 + (-1 : Int32) → PX9_laysOrder_L26 K4 post n y1 y2 y3 x15 v_m14)))))))))))))))))
set_option maxRecDepth 100000 in
set_option maxHeartbeats 1000000 in
theorem wX9_laysOrder_L26  {K4 : Int32 → Int32 → Int32 → OV → Prop} {post : Int32 → OV → Prop} {ad_m : Nat → Nat} (X : kn_X p s m args meth c cX9_laysOrder 5 (some .int) RX9 kn_all D tc Z (kn_A w0 s.heap.size))   (hK4 : ∀ (H : Heap) (locs : List Loc) (ls : Array Slot) (y1 : Int32) (y2 : Int32) (y3 : Int32) (v_m : OV), kn_I D tc (kn_A w0 s.heap.size) s.heap [(kModel, ad_m, v_m)] H locs → lv_has ls 5 [(0, .ref (ad_m 0)), (1, .int y1), (2, .int y2), (3, .int y3)] → K4 y1 y2 y3 v_m → W p l e rmX9_laysOrder s m args below meth c H locs 0 0 (kn_Qi D tc w0 (fun (u : OV) => [(kModel, ad_m, u)]) (fun (r : Int32) (u : OV) => post r u) below args s 0 0) (F0 m 4 ls [])) : ∀ n : Nat, ∀ (H : Heap) (locs : List Loc) (ls : Array Slot) (y1 : Int32) (y2 : Int32) (y3 : Int32) (y4 : Int32) (v_m : OV), kn_I D tc (kn_A w0 s.heap.size) s.heap [(kModel, ad_m, v_m)] H locs → lv_has ls 5 [(0, .ref (ad_m 0)), (1, .int y1), (2, .int y2), (3, .int y3), (4, .int y4)] → PX9_laysOrder_L26 K4 post n y1 y2 y3 y4 v_m → W p l e rmX9_laysOrder s m args below meth c H locs 0 0 (kn_Qi D tc w0 (fun (u : OV) => [(kModel, ad_m, u)]) (fun (r : Int32) (u : OV) => post r u) below args s 0 0) (F0 m 26 ls []) := by
  obtain ⟨S0, hr, hlocks, hK, hZ, hA⟩ := id X
  obtain ⟨hx, hb, hml, hown, hts⟩ := id S0
  intro n
  induction n with
  | zero =>
    intro H locs ls y1 y2 y3 y4 v_m I hl h
    unfold PX9_laysOrder_L26 at h
    exact h.elim
  | succ n ih =>
    intro H locs ls y1 y2 y3 y4 v_m I hl h
    unfold PX9_laysOrder_L26 at h
    refine lv_iload hx hb (kn_dec tX9_laysOrder 17 rfl) (lv_at hl 4 rfl) ?_
    refine lv_if_le (tgt := 98) hx hb (kn_dec tX9_laysOrder 18 rfl) (by decide) (fun c1 => ?_) (fun c1 => ?_)
    · have h := h.1 c1
      exact wX9_laysOrder_b98 X hK4 _ _ _ _ _ _ _ _  I (lv_sub hl [0, 1, 2, 3, 4] rfl) h
    · have h := h.2 c1
      refine lv_aload_n hx hb (kn_dec tX9_laysOrder 19 rfl) rfl (lv_at hl 0 rfl) ?_
      refine kw_getl hx hb hts inX9 hown hK I 0 rfl rfl 4 (by decide) rfl (hts _ q4_204) (kn_dec tX9_laysOrder 20 rfl) rfl ?_
      refine lv_iload_n hx hb (kn_dec tX9_laysOrder 21 rfl) rfl (lv_at hl 3 rfl) ?_
      obtain ⟨hs2, h⟩ := h
      refine kw_iald hx hb hK I 0 rfl 4 10 (List.mem_of_getElem? (i := 3) rfl) hs2 (kn_dec tX9_laysOrder 22 rfl) ?_
      refine lv_aload_n hx hb (kn_dec tX9_laysOrder 23 rfl) rfl (lv_at hl 0 rfl) ?_
      refine lv_iload_n hx hb (kn_dec tX9_laysOrder 24 rfl) rfl (lv_at hl 1 rfl) ?_
      refine lv_aload_n hx hb (kn_dec tX9_laysOrder 25 rfl) rfl (lv_at hl 0 rfl) ?_
      refine kw_getl hx hb hts inX9 hown hK I 0 rfl rfl 60 (by decide) rfl (hts _ q5_20) (kn_dec tX9_laysOrder 26 rfl) rfl ?_
      refine lv_iload hx hb (kn_dec tX9_laysOrder 27 rfl) (lv_at hl 4 rfl) ?_
      refine lv_iconst (v := (1)) hx hb (kn_dec tX9_laysOrder 28 rfl) (by decide) ?_
      refine lv_isub hx hb (kn_dec tX9_laysOrder 29 rfl) ?_
      obtain ⟨hs3, h⟩ := h
      refine kw_iald hx hb hK I 0 rfl 60 10 (List.mem_of_getElem? (i := 43) rfl) hs3 (kn_dec tX9_laysOrder 30 rfl) ?_
      refine kw_calli (wc := [(kModel, ad_m, _)]) (wr := []) I hA [0] [] rfl rfl (by decide) (by decide) (kn_runV (As := [.int _, .int _]) S0 hK hZ hA I ((ctX9_minutesOf h).met _) (kn_cwV 2 hts q6_174 q6_176 q0_70 q1_10 q6_177 rfl rfl (by decide +kernel) ⟨(Nat.le_of_ble_eq_true rfl), (Nat.le_of_ble_eq_true rfl)⟩) [0] rfl (by decide) 0 rfl rfl rfl rfl hl.1 rfl (Nat.le_of_ble_eq_true rfl) (kn_dec tX9_laysOrder 31 rfl) ⟨(Nat.le_of_ble_eq_true rfl), (Nat.le_of_ble_eq_true rfl)⟩) (fun r4 u5 H locs h I => ?_)
      have I : kn_I D tc (kn_A w0 s.heap.size) s.heap [(kModel, ad_m, _)] _ _ := I
      refine lv_imul hx hb (kn_dec tX9_laysOrder 32 rfl) ?_
      refine lv_aload_n hx hb (kn_dec tX9_laysOrder 33 rfl) rfl (lv_at hl 0 rfl) ?_
      refine kw_getl hx hb hts inX9 hown hK I 0 rfl rfl 4 (by decide) rfl (hts _ q4_204) (kn_dec tX9_laysOrder 34 rfl) rfl ?_
      refine lv_aload_n hx hb (kn_dec tX9_laysOrder 35 rfl) rfl (lv_at hl 0 rfl) ?_
      refine kw_getl hx hb hts inX9 hown hK I 0 rfl rfl 60 (by decide) rfl (hts _ q5_20) (kn_dec tX9_laysOrder 36 rfl) rfl ?_
      refine lv_iload hx hb (kn_dec tX9_laysOrder 37 rfl) (lv_at hl 4 rfl) ?_
      refine lv_iconst (v := (1)) hx hb (kn_dec tX9_laysOrder 38 rfl) (by decide) ?_
      refine lv_isub hx hb (kn_dec tX9_laysOrder 39 rfl) ?_
      obtain ⟨hs6, h⟩ := h
      refine kw_iald hx hb hK I 0 rfl 60 10 (List.mem_of_getElem? (i := 43) rfl) hs6 (kn_dec tX9_laysOrder 40 rfl) ?_
      obtain ⟨hs7, h⟩ := h
      refine kw_iald hx hb hK I 0 rfl 4 10 (List.mem_of_getElem? (i := 3) rfl) hs7 (kn_dec tX9_laysOrder 41 rfl) ?_
      refine lv_aload_n hx hb (kn_dec tX9_laysOrder 42 rfl) rfl (lv_at hl 0 rfl) ?_
      refine lv_iload_n hx hb (kn_dec tX9_laysOrder 43 rfl) rfl (lv_at hl 1 rfl) ?_
      refine lv_iload_n hx hb (kn_dec tX9_laysOrder 44 rfl) rfl (lv_at hl 3 rfl) ?_
      refine kw_calli (wc := [(kModel, ad_m, _)]) (wr := []) I hA [0] [] rfl rfl (by decide) (by decide) (kn_runV (As := [.int _, .int _]) S0 hK hZ hA I ((ctX9_minutesOf h).met _) (kn_cwV 2 hts q6_174 q6_176 q0_70 q1_10 q6_177 rfl rfl (by decide +kernel) ⟨(Nat.le_of_ble_eq_true rfl), (Nat.le_of_ble_eq_true rfl)⟩) [0] rfl (by decide) 0 rfl rfl rfl rfl hl.1 rfl (Nat.le_of_ble_eq_true rfl) (kn_dec tX9_laysOrder 45 rfl) ⟨(Nat.le_of_ble_eq_true rfl), (Nat.le_of_ble_eq_true rfl)⟩) (fun r8 u9 H locs h I => ?_)
      have I : kn_I D tc (kn_A w0 s.heap.size) s.heap [(kModel, ad_m, _)] _ _ := I
      refine lv_imul hx hb (kn_dec tX9_laysOrder 46 rfl) ?_
      refine lv_icmp_le (tgt := 98) hx hb (kn_dec tX9_laysOrder 47 rfl) (by decide) (fun c10 => ?_) (fun c10 => ?_)
      · have h := h.1 c10
        exact wX9_laysOrder_b98 X hK4 _ _ _ _ _ _ _ _  I (lv_sub hl [0, 1, 2, 3, 4] rfl) h
      · have h := h.2 c10
        refine lv_aload_n hx hb (kn_dec tX9_laysOrder 48 rfl) rfl (lv_at hl 0 rfl) ?_
        refine kw_getl hx hb hts inX9 hown hK I 0 rfl rfl 60 (by decide) rfl (hts _ q5_20) (kn_dec tX9_laysOrder 49 rfl) rfl ?_
        refine lv_iload hx hb (kn_dec tX9_laysOrder 50 rfl) (lv_at hl 4 rfl) ?_
        refine lv_aload_n hx hb (kn_dec tX9_laysOrder 51 rfl) rfl (lv_at hl 0 rfl) ?_
        refine kw_getl hx hb hts inX9 hown hK I 0 rfl rfl 60 (by decide) rfl (hts _ q5_20) (kn_dec tX9_laysOrder 52 rfl) rfl ?_
        refine lv_iload hx hb (kn_dec tX9_laysOrder 53 rfl) (lv_at hl 4 rfl) ?_
        refine lv_iconst (v := (1)) hx hb (kn_dec tX9_laysOrder 54 rfl) (by decide) ?_
        refine lv_isub hx hb (kn_dec tX9_laysOrder 55 rfl) ?_
        obtain ⟨hs11, h⟩ := h
        refine kw_iald hx hb hK I 0 rfl 60 10 (List.mem_of_getElem? (i := 43) rfl) hs11 (kn_dec tX9_laysOrder 56 rfl) ?_
        refine lv_topi (fun x12 ex12 => ?_)
        have h := h x12 ex12
        obtain ⟨hs13, h⟩ := h
        refine kw_iast hx hb hK I 0 rfl 60 10 (List.mem_of_getElem? (i := 43) rfl) ukModel_60 hs13 (kn_dec tX9_laysOrder 57 rfl) (fun v_m14 ev_m14 H locs I => ?_)
        have h := h v_m14 ev_m14
        have I : kn_I D tc (kn_A w0 s.heap.size) s.heap [(kModel, ad_m, _)] _ _ := I
        refine kw_iinc (lvf := fun y => [(4, .int y), (0, .ref (ad_m 0)), (1, .int _), (2, .int _), (3, .int _)]) (nv := (-1)) hx hb (kn_dec tX9_laysOrder 58 rfl) hl (k := 4) rfl (by decide) (by decide) (fun _ => rfl) (fun x15 ex15 ls hl => ?_)
        have h := h x15 ex15
        refine lv_goto (tgt := 26) hx hb (kn_dec tX9_laysOrder 59 rfl) (by decide) ?_
        exact ih _ _ _ _ _ _ _ _  I (lv_sub hl [1, 2, 3, 4, 0] rfl) h
def PX9_laysOrder_L4   (post : Int32 → OV → Prop) : Nat → Int32 → Int32 → Int32 → OV → Prop
  | 0, _, _, _, _ => False
  | n + 1, y1, y2, y3, v_m => (((v_m.2.1 1 ((3 : Int32)).toNatClampNeg) ≤ y3 → post y2 v_m) ∧ (¬ (v_m.2.1 1 ((3 : Int32)).toNatClampNeg) ≤ y3 → (vp_in y3 10 ∧ (((v_m.2.1 4 y3.toNatClampNeg) ≤ ((0 : Int32)) → (∀ x4 : Int32, x4 = y3 + (1 : Int32) → PX9_laysOrder_L4 post n y1 y2 x4 v_m)) ∧ (¬ (v_m.2.1 4 y3.toNatClampNeg) ≤ ((0 : Int32)) → (∃ n5 : Nat, PX9_laysOrder_L26 (PX9_laysOrder_L4 post n) post n5 y1 y2 y3 y2 v_m))))))
set_option maxRecDepth 100000 in
set_option maxHeartbeats 1000000 in
theorem wX9_laysOrder_L4   {post : Int32 → OV → Prop} {ad_m : Nat → Nat} (X : kn_X p s m args meth c cX9_laysOrder 5 (some .int) RX9 kn_all D tc Z (kn_A w0 s.heap.size))    : ∀ n : Nat, ∀ (H : Heap) (locs : List Loc) (ls : Array Slot) (y1 : Int32) (y2 : Int32) (y3 : Int32) (v_m : OV), kn_I D tc (kn_A w0 s.heap.size) s.heap [(kModel, ad_m, v_m)] H locs → lv_has ls 5 [(0, .ref (ad_m 0)), (1, .int y1), (2, .int y2), (3, .int y3)] → PX9_laysOrder_L4 post n y1 y2 y3 v_m → W p l e rmX9_laysOrder s m args below meth c H locs 0 0 (kn_Qi D tc w0 (fun (u : OV) => [(kModel, ad_m, u)]) (fun (r : Int32) (u : OV) => post r u) below args s 0 0) (F0 m 4 ls []) := by
  obtain ⟨S0, hr, hlocks, hK, hZ, hA⟩ := id X
  obtain ⟨hx, hb, hml, hown, hts⟩ := id S0
  intro n
  induction n with
  | zero =>
    intro H locs ls y1 y2 y3 v_m I hl h
    unfold PX9_laysOrder_L4 at h
    exact h.elim
  | succ n ih =>
    intro H locs ls y1 y2 y3 v_m I hl h
    unfold PX9_laysOrder_L4 at h
    refine lv_iload_n hx hb (kn_dec tX9_laysOrder 4 rfl) rfl (lv_at hl 3 rfl) ?_
    refine lv_aload_n hx hb (kn_dec tX9_laysOrder 5 rfl) rfl (lv_at hl 0 rfl) ?_
    refine kw_getl hx hb hts inX9 hown hK I 0 rfl rfl 1 (by decide) rfl (hts _ q4_201) (kn_dec tX9_laysOrder 6 rfl) rfl ?_
    refine lv_iconst (v := (3)) hx hb (kn_dec tX9_laysOrder 7 rfl) (by decide) ?_
    refine kw_iald hx hb hK I 0 rfl 1 12 (List.mem_of_getElem? (i := 0) rfl) (by unfold vp_in; decide) (kn_dec tX9_laysOrder 8 rfl) ?_
    refine lv_icmp_ge (tgt := 115) hx hb (kn_dec tX9_laysOrder 9 rfl) (by decide) (fun c1 => ?_) (fun c1 => ?_)
    · have h := h.1 c1
      refine lv_iload_n hx hb (kn_dec tX9_laysOrder 68 rfl) rfl (lv_at hl 2 rfl) ?_
      exact kw_iret hx hb hr hlocks I _ rfl h (kn_dec tX9_laysOrder 69 rfl)
    · have h := h.2 c1
      refine lv_aload_n hx hb (kn_dec tX9_laysOrder 10 rfl) rfl (lv_at hl 0 rfl) ?_
      refine kw_getl hx hb hts inX9 hown hK I 0 rfl rfl 4 (by decide) rfl (hts _ q4_204) (kn_dec tX9_laysOrder 11 rfl) rfl ?_
      refine lv_iload_n hx hb (kn_dec tX9_laysOrder 12 rfl) rfl (lv_at hl 3 rfl) ?_
      obtain ⟨hs2, h⟩ := h
      refine kw_iald hx hb hK I 0 rfl 4 10 (List.mem_of_getElem? (i := 3) rfl) hs2 (kn_dec tX9_laysOrder 13 rfl) ?_
      refine lv_if_le (tgt := 109) hx hb (kn_dec tX9_laysOrder 14 rfl) (by decide) (fun c3 => ?_) (fun c3 => ?_)
      · have h := h.1 c3
        refine kw_iinc (lvf := fun y => [(3, .int y), (0, .ref (ad_m 0)), (1, .int _), (2, .int _)]) (nv := (1)) hx hb (kn_dec tX9_laysOrder 66 rfl) hl (k := 3) rfl (by decide) (by decide) (fun _ => rfl) (fun x4 ex4 ls hl => ?_)
        have h := h x4 ex4
        refine lv_goto (tgt := 4) hx hb (kn_dec tX9_laysOrder 67 rfl) (by decide) ?_
        exact ih _ _ _ _ _ _ _  I (lv_sub hl [1, 2, 3, 0] rfl) h
      · have h := h.2 c3
        refine lv_iload_n hx hb (kn_dec tX9_laysOrder 15 rfl) rfl (lv_at hl 2 rfl) ?_
        refine lv_istore (lv' := [(4, .int _), (0, .ref (ad_m 0)), (1, .int _), (2, .int _), (3, .int _)]) hx hb (kn_dec tX9_laysOrder 16 rfl) hl (by decide) rfl (fun ls hl => ?_)
        obtain ⟨n5, h⟩ := h
        exact wX9_laysOrder_L26 X ih n5 _ _ _ _ _ _ _ _  I (lv_sub hl [1, 2, 3, 4, 0] rfl) h
def PX9_laysOrder  (v_m : OV) (a1 : Int32) (post : Int32 → OV → Prop) : Prop := (∃ n1 : Nat, PX9_laysOrder_L4 post n1 a1 ((0 : Int32)) ((0 : Int32)) v_m)
set_option maxRecDepth 100000 in
set_option maxHeartbeats 1000000 in
theorem ctX9_laysOrder {l : Launch} {D : va_G} {tc : Nat → ClassId} {Z : (Nat → Nat) × (Nat → Nat)}  {ad_m : Nat → Nat} {v_m : OV} {a1 : Int32}    {post : Int32 → OV → Prop} (h : PX9_laysOrder  v_m a1 post) : CTi l D tc Z yX9_laysOrder (Cond.code yX9_laysOrder cX9_laysOrder 5 (some .int) :: kn_all) rmX9_laysOrder 0 0 [.ref (ad_m 0), .int a1] [(kModel, ad_m, v_m)] (fun (u : OV) => [(kModel, ad_m, u)]) (fun (r : Int32) (u : OV) => post r u) := by
  refine kn_ofi (cc := cX9_laysOrder) (nL := 5) (ret := (some .int)) (lv := [(0, .ref (ad_m 0)), (1, .int a1)]) (by decide) (Nat.le_of_ble_eq_true rfl) rfl (fun p e s m below meth c ls X I hl _ => ?_)
  obtain ⟨S0, hr, hlocks, hK, hZ, hA⟩ := id X
  obtain ⟨hx, hb, hml, hown, hts⟩ := id S0
  unfold PX9_laysOrder at h
  refine lv_iconst (v := (0)) hx hb (kn_dec tX9_laysOrder 0 rfl) (by decide) ?_
  refine lv_istore_n (lv' := [(2, .int _), (0, .ref (ad_m 0)), (1, .int _)]) hx hb (kn_dec tX9_laysOrder 1 rfl) rfl hl (by decide) rfl (fun ls hl => ?_)
  refine lv_iconst (v := (0)) hx hb (kn_dec tX9_laysOrder 2 rfl) (by decide) ?_
  refine lv_istore_n (lv' := [(3, .int _), (2, .int _), (0, .ref (ad_m 0)), (1, .int _)]) hx hb (kn_dec tX9_laysOrder 3 rfl) rfl hl (by decide) rfl (fun ls hl => ?_)
  obtain ⟨n1, h⟩ := h
  exact wX9_laysOrder_L4 X n1 _ _ _ _ _ _ _  I (lv_sub hl [2, 3, 1, 0] rfl) h

/-! X9_order -/
abbrev rmX9_order : Room := { frames := 2, cells := 0, slots := 0, locals := 47 }
def PX9_order  (v_m : OV) (a1 : Int32) (a2 : Int32) (post : Int32 → OV → Prop) : Prop := (PX9_isSeeker v_m a1 (fun r1 => ((r1 = ((0 : Int32)) → post ((-1 : Int32)) v_m) ∧ (¬ r1 = ((0 : Int32)) → ((((0 : Int32)) ≤ a2 → (PX9_laysOrder v_m a1 (fun r6 v_m5 => ((r6 ≤ a2 → post ((-2 : Int32)) v_m5) ∧ (¬ r6 ≤ a2 → (vp_in a2 10 ∧ post (v_m5.2.1 60 a2.toNatClampNeg) v_m5)))))) ∧ (¬ ((0 : Int32)) ≤ a2 → post ((-1 : Int32)) v_m))))))
set_option maxRecDepth 100000 in
set_option maxHeartbeats 1000000 in
theorem ctX9_order {l : Launch} {D : va_G} {tc : Nat → ClassId} {Z : (Nat → Nat) × (Nat → Nat)}  {ad_m : Nat → Nat} {v_m : OV} {a1 : Int32} {a2 : Int32}    {post : Int32 → OV → Prop} (h : PX9_order  v_m a1 a2 post) : CTi l D tc Z yX9_order (Cond.code yX9_order cX9_order 3 (some .int) :: kn_all) rmX9_order 0 0 [.ref (ad_m 0), .int a1, .int a2] [(kModel, ad_m, v_m)] (fun (u : OV) => [(kModel, ad_m, u)]) (fun (r : Int32) (u : OV) => post r u) := by
  refine kn_ofi (cc := cX9_order) (nL := 3) (ret := (some .int)) (lv := [(0, .ref (ad_m 0)), (1, .int a1), (2, .int a2)]) (by decide) (Nat.le_of_ble_eq_true rfl) rfl (fun p e s m below meth c ls X I hl _ => ?_)
  obtain ⟨S0, hr, hlocks, hK, hZ, hA⟩ := id X
  obtain ⟨hx, hb, hml, hown, hts⟩ := id S0
  unfold PX9_order at h
  refine lv_aload_n hx hb (kn_dec tX9_order 0 rfl) rfl (lv_at hl 0 rfl) ?_
  refine lv_iload_n hx hb (kn_dec tX9_order 1 rfl) rfl (lv_at hl 1 rfl) ?_
  refine kw_calli (wc := [(kModel, ad_m, _)]) (wr := []) I hA [0] [] rfl rfl (by decide) (by decide) (kn_runV (As := [.int _]) S0 hK hZ hA I ((ctX9_isSeeker h).met _) (kn_cwV 1 hts q6_119 q6_121 q0_60 q1_10 q6_122 rfl rfl (by decide +kernel) ⟨(Nat.le_of_ble_eq_true rfl), (Nat.le_of_ble_eq_true rfl)⟩) [0] rfl (by decide) 0 rfl rfl rfl rfl hl.1 rfl (Nat.le_of_ble_eq_true rfl) (kn_dec tX9_order 2 rfl) ⟨(Nat.le_of_ble_eq_true rfl), (Nat.le_of_ble_eq_true rfl)⟩) (fun r1 u2 H locs h I => ?_)
  obtain ⟨hz_r1, h⟩ := h
  have I : kn_I D tc (kn_A _ s.heap.size) s.heap [(kModel, ad_m, _)] _ _ := I
  refine lv_if_eq (tgt := 12) hx hb (kn_dec tX9_order 3 rfl) (by decide) (fun c3 => ?_) (fun c3 => ?_)
  · have h := h.1 c3
    refine lv_iconst (v := (-1)) hx hb (kn_dec tX9_order 6 rfl) (by decide) ?_
    exact kw_iret hx hb hr hlocks I _ rfl h (kn_dec tX9_order 7 rfl)
  · have h := h.2 c3
    refine lv_iload_n hx hb (kn_dec tX9_order 4 rfl) rfl (lv_at hl 2 rfl) ?_
    refine lv_if_ge (tgt := 14) hx hb (kn_dec tX9_order 5 rfl) (by decide) (fun c4 => ?_) (fun c4 => ?_)
    · have h := h.1 c4
      refine lv_iload_n hx hb (kn_dec tX9_order 8 rfl) rfl (lv_at hl 2 rfl) ?_
      refine lv_aload_n hx hb (kn_dec tX9_order 9 rfl) rfl (lv_at hl 0 rfl) ?_
      refine lv_iload_n hx hb (kn_dec tX9_order 10 rfl) rfl (lv_at hl 1 rfl) ?_
      refine kw_calli (wc := [(kModel, ad_m, _)]) (wr := []) I hA [0] [] rfl rfl (by decide) (by decide) (kn_runV (As := [.int _]) S0 hK hZ hA I ((ctX9_laysOrder h).met _) (kn_cwV 1 hts q7_34 q7_36 q0_83 q1_10 q7_37 rfl rfl (by decide +kernel) ⟨(Nat.le_of_ble_eq_true rfl), (Nat.le_of_ble_eq_true rfl)⟩) [0] rfl (by decide) 0 rfl rfl rfl rfl hl.1 rfl (Nat.le_of_ble_eq_true rfl) (kn_dec tX9_order 11 rfl) ⟨(Nat.le_of_ble_eq_true rfl), (Nat.le_of_ble_eq_true rfl)⟩) (fun r6 u7 H locs h I => ?_)
      have I : kn_I D tc (kn_A _ s.heap.size) s.heap [(kModel, ad_m, _)] _ _ := I
      refine lv_icmp_ge (tgt := 32) hx hb (kn_dec tX9_order 12 rfl) (by decide) (fun c8 => ?_) (fun c8 => ?_)
      · have h := h.1 c8
        refine lv_bipush (v := (-2)) hx hb (kn_dec tX9_order 18 rfl) (by decide) ?_
        exact kw_iret hx hb hr hlocks I _ rfl h (kn_dec tX9_order 19 rfl)
      · have h := h.2 c8
        refine lv_aload_n hx hb (kn_dec tX9_order 13 rfl) rfl (lv_at hl 0 rfl) ?_
        refine kw_getl hx hb hts inX9 hown hK I 0 rfl rfl 60 (by decide) rfl (hts _ q5_20) (kn_dec tX9_order 14 rfl) rfl ?_
        refine lv_iload_n hx hb (kn_dec tX9_order 15 rfl) rfl (lv_at hl 2 rfl) ?_
        obtain ⟨hs9, h⟩ := h
        refine kw_iald hx hb hK I 0 rfl 60 10 (List.mem_of_getElem? (i := 43) rfl) hs9 (kn_dec tX9_order 16 rfl) ?_
        refine lv_goto (tgt := 34) hx hb (kn_dec tX9_order 17 rfl) (by decide) ?_
        exact kw_iret hx hb hr hlocks I _ rfl h (kn_dec tX9_order 19 rfl)
    · have h := h.2 c4
      refine lv_iconst (v := (-1)) hx hb (kn_dec tX9_order 6 rfl) (by decide) ?_
      exact kw_iret hx hb hr hlocks I _ rfl h (kn_dec tX9_order 7 rfl)

/-! X9_mean -/
abbrev rmX9_mean : Room := { frames := 2, cells := 0, slots := 0, locals := 47 }
def PX9_mean_L35   (post : Int32 → OV → Prop) : Nat → Int32 → Int32 → Int32 → Int32 → Int32 → Int32 → OV → Prop
  | 0, _, _, _, _, _, _, _ => False
  | n + 1, y1, y2, y3, y4, y5, y6, v_m => ((y3 ≤ y6 → (PX9_allOdds v_m (fun r2 => (PX9_fraction y5 r2 y2 (fun r4 => post r4 v_m))))) ∧ (¬ y3 ≤ y6 → (vp_in y6 10 ∧ (PX9_minutesOf v_m y1 (v_m.2.1 60 y6.toNatClampNeg) (fun r7 => (∀ x9 : Int32, x9 = (y4 + r7) → (vp_in y6 10 ∧ (vp_in (v_m.2.1 60 y6.toNatClampNeg) 10 ∧ (∀ x12 : Int32, x12 = (y5 + ((v_m.2.1 4 (v_m.2.1 60 y6.toNatClampNeg).toNatClampNeg) * x9)) → (∀ x13 : Int32, x13 = y6 + (1 : Int32) → PX9_mean_L35 post n y1 y2 y3 x9 x12 x13 v_m))))))))))
set_option maxRecDepth 100000 in
set_option maxHeartbeats 1000000 in
theorem wX9_mean_L35   {post : Int32 → OV → Prop} {ad_m : Nat → Nat} (X : kn_X p s m args meth c cX9_mean 7 (some .int) RX9 kn_all D tc Z (kn_A w0 s.heap.size))    : ∀ n : Nat, ∀ (H : Heap) (locs : List Loc) (ls : Array Slot) (y1 : Int32) (y2 : Int32) (y3 : Int32) (y4 : Int32) (y5 : Int32) (y6 : Int32) (v_m : OV), kn_I D tc (kn_A w0 s.heap.size) s.heap [(kModel, ad_m, v_m)] H locs → lv_has ls 7 [(0, .ref (ad_m 0)), (1, .int y1), (2, .int y2), (3, .int y3), (4, .int y4), (5, .int y5), (6, .int y6)] → PX9_mean_L35 post n y1 y2 y3 y4 y5 y6 v_m → W p l e rmX9_mean s m args below meth c H locs 0 0 (kn_Qi D tc w0 (fun (u : OV) => [(kModel, ad_m, u)]) (fun (r : Int32) (u : OV) => post r u) below args s 0 0) (F0 m 35 ls []) := by
  obtain ⟨S0, hr, hlocks, hK, hZ, hA⟩ := id X
  obtain ⟨hx, hb, hml, hown, hts⟩ := id S0
  intro n
  induction n with
  | zero =>
    intro H locs ls y1 y2 y3 y4 y5 y6 v_m I hl h
    unfold PX9_mean_L35 at h
    exact h.elim
  | succ n ih =>
    intro H locs ls y1 y2 y3 y4 y5 y6 v_m I hl h
    unfold PX9_mean_L35 at h
    refine lv_iload hx hb (kn_dec tX9_mean 22 rfl) (lv_at hl 6 rfl) ?_
    refine lv_iload_n hx hb (kn_dec tX9_mean 23 rfl) rfl (lv_at hl 3 rfl) ?_
    refine lv_icmp_ge (tgt := 84) hx hb (kn_dec tX9_mean 24 rfl) (by decide) (fun c1 => ?_) (fun c1 => ?_)
    · have h := h.1 c1
      refine lv_iload hx hb (kn_dec tX9_mean 49 rfl) (lv_at hl 5 rfl) ?_
      refine lv_aload_n hx hb (kn_dec tX9_mean 50 rfl) rfl (lv_at hl 0 rfl) ?_
      refine kw_calli (wc := [(kModel, ad_m, _)]) (wr := []) I hA [0] [] rfl rfl (by decide) (by decide) (kn_runV (As := []) S0 hK hZ hA I ((ctX9_allOdds h).met _) (kn_cwV 0 hts q7_42 q7_44 q0_84 q1_10 q7_45 rfl rfl (by decide +kernel) ⟨(Nat.le_of_ble_eq_true rfl), (Nat.le_of_ble_eq_true rfl)⟩) [0] rfl (by decide) 0 rfl rfl rfl rfl hl.1 rfl (Nat.le_of_ble_eq_true rfl) (kn_dec tX9_mean 51 rfl) ⟨(Nat.le_of_ble_eq_true rfl), (Nat.le_of_ble_eq_true rfl)⟩) (fun r2 u3 H locs h I => ?_)
      have I : kn_I D tc (kn_A w0 s.heap.size) s.heap [(kModel, ad_m, _)] _ _ := I
      refine lv_iload_n hx hb (kn_dec tX9_mean 52 rfl) rfl (lv_at hl 2 rfl) ?_
      refine kw_calli (wc := []) (wr := [(kModel, ad_m, _)]) I hA [] [0] rfl rfl (by decide) (by decide) (kn_runS (As := [.int _, .int _, .int _]) S0 hK hZ hA I ((ctX9_fraction h).met _) (kn_cwS 3 hts q7_46 q7_47 q1_10 q7_48 rfl rfl (by decide +kernel) ⟨(Nat.le_of_ble_eq_true rfl), (Nat.le_of_ble_eq_true rfl)⟩) [] rfl (by decide) rfl hl.1 rfl (Nat.le_of_ble_eq_true rfl) (kn_dec tX9_mean 53 rfl) ⟨(Nat.le_of_ble_eq_true rfl), (Nat.le_of_ble_eq_true rfl)⟩) (fun r4 u5 H locs h I => ?_)
      have I : kn_I D tc (kn_A w0 s.heap.size) s.heap [(kModel, ad_m, _)] _ _ := I
      exact kw_iret hx hb hr hlocks I _ rfl h (kn_dec tX9_mean 54 rfl)
    · have h := h.2 c1
      refine lv_iload hx hb (kn_dec tX9_mean 25 rfl) (lv_at hl 4 rfl) ?_
      refine lv_aload_n hx hb (kn_dec tX9_mean 26 rfl) rfl (lv_at hl 0 rfl) ?_
      refine lv_iload_n hx hb (kn_dec tX9_mean 27 rfl) rfl (lv_at hl 1 rfl) ?_
      refine lv_aload_n hx hb (kn_dec tX9_mean 28 rfl) rfl (lv_at hl 0 rfl) ?_
      refine kw_getl hx hb hts inX9 hown hK I 0 rfl rfl 60 (by decide) rfl (hts _ q5_20) (kn_dec tX9_mean 29 rfl) rfl ?_
      refine lv_iload hx hb (kn_dec tX9_mean 30 rfl) (lv_at hl 6 rfl) ?_
      obtain ⟨hs6, h⟩ := h
      refine kw_iald hx hb hK I 0 rfl 60 10 (List.mem_of_getElem? (i := 43) rfl) hs6 (kn_dec tX9_mean 31 rfl) ?_
      refine kw_calli (wc := [(kModel, ad_m, _)]) (wr := []) I hA [0] [] rfl rfl (by decide) (by decide) (kn_runV (As := [.int _, .int _]) S0 hK hZ hA I ((ctX9_minutesOf h).met _) (kn_cwV 2 hts q6_174 q6_176 q0_70 q1_10 q6_177 rfl rfl (by decide +kernel) ⟨(Nat.le_of_ble_eq_true rfl), (Nat.le_of_ble_eq_true rfl)⟩) [0] rfl (by decide) 0 rfl rfl rfl rfl hl.1 rfl (Nat.le_of_ble_eq_true rfl) (kn_dec tX9_mean 32 rfl) ⟨(Nat.le_of_ble_eq_true rfl), (Nat.le_of_ble_eq_true rfl)⟩) (fun r7 u8 H locs h I => ?_)
      have I : kn_I D tc (kn_A w0 s.heap.size) s.heap [(kModel, ad_m, _)] _ _ := I
      refine lv_iadd hx hb (kn_dec tX9_mean 33 rfl) ?_
      refine lv_topi (fun x9 ex9 => ?_)
      have h := h x9 ex9
      refine lv_istore (lv' := [(4, .int _), (0, .ref (ad_m 0)), (1, .int _), (2, .int _), (3, .int _), (5, .int _), (6, .int _)]) hx hb (kn_dec tX9_mean 34 rfl) hl (by decide) rfl (fun ls hl => ?_)
      refine lv_iload hx hb (kn_dec tX9_mean 35 rfl) (lv_at hl 5 rfl) ?_
      refine lv_aload_n hx hb (kn_dec tX9_mean 36 rfl) rfl (lv_at hl 1 rfl) ?_
      refine kw_getl hx hb hts inX9 hown hK I 0 rfl rfl 4 (by decide) rfl (hts _ q4_204) (kn_dec tX9_mean 37 rfl) rfl ?_
      refine lv_aload_n hx hb (kn_dec tX9_mean 38 rfl) rfl (lv_at hl 1 rfl) ?_
      refine kw_getl hx hb hts inX9 hown hK I 0 rfl rfl 60 (by decide) rfl (hts _ q5_20) (kn_dec tX9_mean 39 rfl) rfl ?_
      refine lv_iload hx hb (kn_dec tX9_mean 40 rfl) (lv_at hl 6 rfl) ?_
      obtain ⟨hs10, h⟩ := h
      refine kw_iald hx hb hK I 0 rfl 60 10 (List.mem_of_getElem? (i := 43) rfl) hs10 (kn_dec tX9_mean 41 rfl) ?_
      obtain ⟨hs11, h⟩ := h
      refine kw_iald hx hb hK I 0 rfl 4 10 (List.mem_of_getElem? (i := 3) rfl) hs11 (kn_dec tX9_mean 42 rfl) ?_
      refine lv_iload hx hb (kn_dec tX9_mean 43 rfl) (lv_at hl 0 rfl) ?_
      refine lv_imul hx hb (kn_dec tX9_mean 44 rfl) ?_
      refine lv_iadd hx hb (kn_dec tX9_mean 45 rfl) ?_
      refine lv_topi (fun x12 ex12 => ?_)
      have h := h x12 ex12
      refine lv_istore (lv' := [(5, .int _), (4, .int _), (0, .ref (ad_m 0)), (1, .int _), (2, .int _), (3, .int _), (6, .int _)]) hx hb (kn_dec tX9_mean 46 rfl) hl (by decide) rfl (fun ls hl => ?_)
      refine kw_iinc (lvf := fun y => [(6, .int y), (5, .int _), (4, .int _), (0, .ref (ad_m 0)), (1, .int _), (2, .int _), (3, .int _)]) (nv := (1)) hx hb (kn_dec tX9_mean 47 rfl) hl (k := 6) rfl (by decide) (by decide) (fun _ => rfl) (fun x13 ex13 ls hl => ?_)
      have h := h x13 ex13
      refine lv_goto (tgt := 35) hx hb (kn_dec tX9_mean 48 rfl) (by decide) ?_
      exact ih _ _ _ _ _ _ _ _ _ _  I (lv_sub hl [3, 4, 5, 6, 2, 1, 0] rfl) h
def PX9_mean  (v_m : OV) (a1 : Int32) (a2 : Int32) (post : Int32 → OV → Prop) : Prop := (PX9_isSeeker v_m a1 (fun r1 => ((r1 = ((0 : Int32)) → post ((-1 : Int32)) v_m) ∧ (¬ r1 = ((0 : Int32)) → (PX9_in a2.toInt64 ((0 : Int64)) ((1 : Int64)) (fun r4 => ((¬ r4 = ((0 : Int32)) → (PX9_laysOrder v_m a1 (fun r8 v_m7 => (∃ n10 : Nat, PX9_mean_L35 post n10 a1 a2 r8 ((0 : Int32)) ((0 : Int32)) ((0 : Int32)) v_m7)))) ∧ (r4 = ((0 : Int32)) → post ((-1 : Int32)) v_m))))))))
set_option maxRecDepth 100000 in
set_option maxHeartbeats 1000000 in
theorem ctX9_mean {l : Launch} {D : va_G} {tc : Nat → ClassId} {Z : (Nat → Nat) × (Nat → Nat)}  {ad_m : Nat → Nat} {v_m : OV} {a1 : Int32} {a2 : Int32}    {post : Int32 → OV → Prop} (h : PX9_mean  v_m a1 a2 post) : CTi l D tc Z yX9_mean (Cond.code yX9_mean cX9_mean 7 (some .int) :: kn_all) rmX9_mean 0 0 [.ref (ad_m 0), .int a1, .int a2] [(kModel, ad_m, v_m)] (fun (u : OV) => [(kModel, ad_m, u)]) (fun (r : Int32) (u : OV) => post r u) := by
  refine kn_ofi (cc := cX9_mean) (nL := 7) (ret := (some .int)) (lv := [(0, .ref (ad_m 0)), (1, .int a1), (2, .int a2)]) (by decide) (Nat.le_of_ble_eq_true rfl) rfl (fun p e s m below meth c ls X I hl _ => ?_)
  obtain ⟨S0, hr, hlocks, hK, hZ, hA⟩ := id X
  obtain ⟨hx, hb, hml, hown, hts⟩ := id S0
  unfold PX9_mean at h
  refine lv_aload_n hx hb (kn_dec tX9_mean 0 rfl) rfl (lv_at hl 0 rfl) ?_
  refine lv_iload_n hx hb (kn_dec tX9_mean 1 rfl) rfl (lv_at hl 1 rfl) ?_
  refine kw_calli (wc := [(kModel, ad_m, _)]) (wr := []) I hA [0] [] rfl rfl (by decide) (by decide) (kn_runV (As := [.int _]) S0 hK hZ hA I ((ctX9_isSeeker h).met _) (kn_cwV 1 hts q6_119 q6_121 q0_60 q1_10 q6_122 rfl rfl (by decide +kernel) ⟨(Nat.le_of_ble_eq_true rfl), (Nat.le_of_ble_eq_true rfl)⟩) [0] rfl (by decide) 0 rfl rfl rfl rfl hl.1 rfl (Nat.le_of_ble_eq_true rfl) (kn_dec tX9_mean 2 rfl) ⟨(Nat.le_of_ble_eq_true rfl), (Nat.le_of_ble_eq_true rfl)⟩) (fun r1 u2 H locs h I => ?_)
  obtain ⟨hz_r1, h⟩ := h
  have I : kn_I D tc (kn_A _ s.heap.size) s.heap [(kModel, ad_m, _)] _ _ := I
  refine lv_if_eq (tgt := 18) hx hb (kn_dec tX9_mean 3 rfl) (by decide) (fun c3 => ?_) (fun c3 => ?_)
  · have h := h.1 c3
    refine lv_iconst (v := (-1)) hx hb (kn_dec tX9_mean 10 rfl) (by decide) ?_
    exact kw_iret hx hb hr hlocks I _ rfl h (kn_dec tX9_mean 11 rfl)
  · have h := h.2 c3
    refine lv_iload_n hx hb (kn_dec tX9_mean 4 rfl) rfl (lv_at hl 2 rfl) ?_
    refine lv_i2l hx hb (kn_dec tX9_mean 5 rfl) rfl ?_
    refine lv_lconst (v := 0) hx hb (kn_dec tX9_mean 6 rfl) (by decide) ?_
    refine lv_lconst (v := 1) hx hb (kn_dec tX9_mean 7 rfl) (by decide) ?_
    refine kw_calli (wc := []) (wr := [(kModel, ad_m, _)]) I hA [] [0] rfl rfl (by decide) (by decide) (kn_runS (As := [.long _, .long _, .long _]) S0 hK hZ hA I ((ctX9_in h).met _) (kn_cwS 3 hts q6_1 q6_2 q1_10 q6_3 rfl rfl (by decide +kernel) ⟨(Nat.le_of_ble_eq_true rfl), (Nat.le_of_ble_eq_true rfl)⟩) [] rfl (by decide) rfl hl.1 rfl (Nat.le_of_ble_eq_true rfl) (kn_dec tX9_mean 8 rfl) ⟨(Nat.le_of_ble_eq_true rfl), (Nat.le_of_ble_eq_true rfl)⟩) (fun r4 u5 H locs h I => ?_)
    obtain ⟨hz_r4, h⟩ := h
    have I : kn_I D tc (kn_A _ s.heap.size) s.heap [(kModel, ad_m, _)] _ _ := I
    refine lv_if_ne (tgt := 20) hx hb (kn_dec tX9_mean 9 rfl) (by decide) (fun c6 => ?_) (fun c6 => ?_)
    · have h := h.1 c6
      refine lv_aload_n hx hb (kn_dec tX9_mean 12 rfl) rfl (lv_at hl 0 rfl) ?_
      refine lv_iload_n hx hb (kn_dec tX9_mean 13 rfl) rfl (lv_at hl 1 rfl) ?_
      refine kw_calli (wc := [(kModel, ad_m, _)]) (wr := []) I hA [0] [] rfl rfl (by decide) (by decide) (kn_runV (As := [.int _]) S0 hK hZ hA I ((ctX9_laysOrder h).met _) (kn_cwV 1 hts q7_34 q7_36 q0_83 q1_10 q7_37 rfl rfl (by decide +kernel) ⟨(Nat.le_of_ble_eq_true rfl), (Nat.le_of_ble_eq_true rfl)⟩) [0] rfl (by decide) 0 rfl rfl rfl rfl hl.1 rfl (Nat.le_of_ble_eq_true rfl) (kn_dec tX9_mean 14 rfl) ⟨(Nat.le_of_ble_eq_true rfl), (Nat.le_of_ble_eq_true rfl)⟩) (fun r8 u9 H locs h I => ?_)
      have I : kn_I D tc (kn_A _ s.heap.size) s.heap [(kModel, ad_m, _)] _ _ := I
      refine lv_istore_n (lv' := [(3, .int _), (0, .ref (ad_m 0)), (1, .int _), (2, .int _)]) hx hb (kn_dec tX9_mean 15 rfl) rfl hl (by decide) rfl (fun ls hl => ?_)
      refine lv_iconst (v := (0)) hx hb (kn_dec tX9_mean 16 rfl) (by decide) ?_
      refine lv_istore (lv' := [(4, .int _), (3, .int _), (0, .ref (ad_m 0)), (1, .int _), (2, .int _)]) hx hb (kn_dec tX9_mean 17 rfl) hl (by decide) rfl (fun ls hl => ?_)
      refine lv_iconst (v := (0)) hx hb (kn_dec tX9_mean 18 rfl) (by decide) ?_
      refine lv_istore (lv' := [(5, .int _), (4, .int _), (3, .int _), (0, .ref (ad_m 0)), (1, .int _), (2, .int _)]) hx hb (kn_dec tX9_mean 19 rfl) hl (by decide) rfl (fun ls hl => ?_)
      refine lv_iconst (v := (0)) hx hb (kn_dec tX9_mean 20 rfl) (by decide) ?_
      refine lv_istore (lv' := [(6, .int _), (5, .int _), (4, .int _), (3, .int _), (0, .ref (ad_m 0)), (1, .int _), (2, .int _)]) hx hb (kn_dec tX9_mean 21 rfl) hl (by decide) rfl (fun ls hl => ?_)
      obtain ⟨n10, h⟩ := h
      exact wX9_mean_L35 X n10 _ _ _ _ _ _ _ _ _ _  I (lv_sub hl [4, 5, 6, 3, 2, 1, 0] rfl) h
    · have h := h.2 c6
      refine lv_iconst (v := (-1)) hx hb (kn_dec tX9_mean 10 rfl) (by decide) ?_
      exact kw_iret hx hb hr hlocks I _ rfl h (kn_dec tX9_mean 11 rfl)

/-! X9_gone -/
abbrev rmX9_gone : Room := { frames := 2, cells := 0, slots := 0, locals := 44 }
def PX9_gone_b52 (v_m : OV) (K23 : Int32 → Int32 → Int32 → Prop) (post : Int32 → Prop) (t0 : Int32) (t1 : Int32) (y1 : Int32) (y3 : Int32) : Prop := (∀ x1 : Int32, x1 = (t0 + t1) → (∀ x2 : Int32, x2 = y3 + (1 : Int32) → K23 y1 x1 x2))
set_option maxRecDepth 100000 in
set_option maxHeartbeats 1000000 in
theorem wX9_gone_b52 {v_m : OV} {K23 : Int32 → Int32 → Int32 → Prop} {post : Int32 → Prop} {ad_m : Nat → Nat} (X : kn_X p s m args meth c cX9_gone 4 (some .int) RX9 kn_all D tc Z (kn_A w0 s.heap.size))   (hK23 : ∀ (H : Heap) (locs : List Loc) (ls : Array Slot) (y1 : Int32) (y2 : Int32) (y3 : Int32), kn_I D tc (kn_A w0 s.heap.size) s.heap [(kModel, ad_m, v_m)] H locs → lv_has ls 4 [(0, .ref (ad_m 0)), (1, .int y1), (2, .int y2), (3, .int y3)] → K23 y1 y2 y3 → W p l e rmX9_gone s m args below meth c H locs 0 0 (kn_Qi D tc w0 (fun (u : Unit) => [(kModel, ad_m, v_m)]) (fun (r : Int32) (u : Unit) => post r) below args s 0 0) (F0 m 23 ls [])) : ∀ (H : Heap) (locs : List Loc) (ls : Array Slot) (t0 : Int32) (t1 : Int32) (y1 : Int32) (y3 : Int32), kn_I D tc (kn_A w0 s.heap.size) s.heap [(kModel, ad_m, v_m)] H locs → lv_has ls 4 [(0, .ref (ad_m 0)), (1, .int y1), (3, .int y3)] → PX9_gone_b52 v_m K23 post t0 t1 y1 y3 → W p l e rmX9_gone s m args below meth c H locs 0 0 (kn_Qi D tc w0 (fun (u : Unit) => [(kModel, ad_m, v_m)]) (fun (r : Int32) (u : Unit) => post r) below args s 0 0) (F0 m 52 ls [.int t1, .int t0]) := by
  obtain ⟨S0, hr, hlocks, hK, hZ, hA⟩ := id X
  obtain ⟨hx, hb, hml, hown, hts⟩ := id S0
  intro H locs ls t0 t1 y1 y3 I hl h
  unfold PX9_gone_b52 at h
  refine lv_iadd hx hb (kn_dec tX9_gone 32 rfl) ?_
  refine lv_topi (fun x1 ex1 => ?_)
  have h := h x1 ex1
  refine lv_istore_n (lv' := [(2, .int _), (0, .ref (ad_m 0)), (1, .int _), (3, .int _)]) hx hb (kn_dec tX9_gone 33 rfl) rfl hl (by decide) rfl (fun ls hl => ?_)
  refine kw_iinc (lvf := fun y => [(3, .int y), (2, .int _), (0, .ref (ad_m 0)), (1, .int _)]) (nv := (1)) hx hb (kn_dec tX9_gone 34 rfl) hl (k := 3) rfl (by decide) (by decide) (fun _ => rfl) (fun x2 ex2 ls hl => ?_)
  have h := h x2 ex2
  refine lv_goto (tgt := 23) hx hb (kn_dec tX9_gone 35 rfl) (by decide) ?_
  exact hK23 _ _ _ _ _ _  I (lv_sub hl [2, 3, 1, 0] rfl) h
def PX9_gone_L23 (v_m : OV)  (post : Int32 → Prop) : Nat → Int32 → Int32 → Int32 → Prop
  | 0, _, _, _ => False
  | n + 1, y1, y2, y3 => (((v_m.2.1 1 ((3 : Int32)).toNatClampNeg) ≤ y3 → (PX9_allOdds v_m (fun r2 => (∀ x4 : Int32, x4 = ((v_m.2.1 1 ((2 : Int32)).toNatClampNeg) * r2) → (PX9_fraction x4 (x4 + ((((100 : Int32)) - (v_m.2.1 1 ((2 : Int32)).toNatClampNeg)) * y2)) y1 (fun r5 => post r5)))))) ∧ (¬ (v_m.2.1 1 ((3 : Int32)).toNatClampNeg) ≤ y3 → (PX9_whoTried v_m y3 (fun r7 => ((¬ r7 = ((0 : Int32)) → PX9_gone_b52 v_m (PX9_gone_L23 v_m post n) post y2 ((0 : Int32)) y1 y3) ∧ (r7 = ((0 : Int32)) → (vp_in y3 10 ∧ PX9_gone_b52 v_m (PX9_gone_L23 v_m post n) post y2 (v_m.2.1 4 y3.toNatClampNeg) y1 y3)))))))
set_option maxRecDepth 100000 in
set_option maxHeartbeats 1000000 in
theorem wX9_gone_L23 {v_m : OV}  {post : Int32 → Prop} {ad_m : Nat → Nat} (X : kn_X p s m args meth c cX9_gone 4 (some .int) RX9 kn_all D tc Z (kn_A w0 s.heap.size))    : ∀ n : Nat, ∀ (H : Heap) (locs : List Loc) (ls : Array Slot) (y1 : Int32) (y2 : Int32) (y3 : Int32), kn_I D tc (kn_A w0 s.heap.size) s.heap [(kModel, ad_m, v_m)] H locs → lv_has ls 4 [(0, .ref (ad_m 0)), (1, .int y1), (2, .int y2), (3, .int y3)] → PX9_gone_L23 v_m post n y1 y2 y3 → W p l e rmX9_gone s m args below meth c H locs 0 0 (kn_Qi D tc w0 (fun (u : Unit) => [(kModel, ad_m, v_m)]) (fun (r : Int32) (u : Unit) => post r) below args s 0 0) (F0 m 23 ls []) := by
  obtain ⟨S0, hr, hlocks, hK, hZ, hA⟩ := id X
  obtain ⟨hx, hb, hml, hown, hts⟩ := id S0
  intro n
  induction n with
  | zero =>
    intro H locs ls y1 y2 y3 I hl h
    unfold PX9_gone_L23 at h
    exact h.elim
  | succ n ih =>
    intro H locs ls y1 y2 y3 I hl h
    unfold PX9_gone_L23 at h
    refine lv_iload_n hx hb (kn_dec tX9_gone 15 rfl) rfl (lv_at hl 3 rfl) ?_
    refine lv_aload_n hx hb (kn_dec tX9_gone 16 rfl) rfl (lv_at hl 0 rfl) ?_
    refine kw_getl hx hb hts inX9 hown hK I 0 rfl rfl 1 (by decide) rfl (hts _ q4_201) (kn_dec tX9_gone 17 rfl) rfl ?_
    refine lv_iconst (v := (3)) hx hb (kn_dec tX9_gone 18 rfl) (by decide) ?_
    refine kw_iald hx hb hK I 0 rfl 1 12 (List.mem_of_getElem? (i := 0) rfl) (by unfold vp_in; decide) (kn_dec tX9_gone 19 rfl) ?_
    refine lv_icmp_ge (tgt := 60) hx hb (kn_dec tX9_gone 20 rfl) (by decide) (fun c1 => ?_) (fun c1 => ?_)
    · have h := h.1 c1
      refine lv_aload_n hx hb (kn_dec tX9_gone 36 rfl) rfl (lv_at hl 0 rfl) ?_
      refine kw_getl hx hb hts inX9 hown hK I 0 rfl rfl 1 (by decide) rfl (hts _ q4_201) (kn_dec tX9_gone 37 rfl) rfl ?_
      refine lv_iconst (v := (2)) hx hb (kn_dec tX9_gone 38 rfl) (by decide) ?_
      refine kw_iald hx hb hK I 0 rfl 1 12 (List.mem_of_getElem? (i := 0) rfl) (by unfold vp_in; decide) (kn_dec tX9_gone 39 rfl) ?_
      refine lv_aload_n hx hb (kn_dec tX9_gone 40 rfl) rfl (lv_at hl 0 rfl) ?_
      refine kw_calli (wc := [(kModel, ad_m, _)]) (wr := []) I hA [0] [] rfl rfl (by decide) (by decide) (kn_runV (As := []) S0 hK hZ hA I ((ctX9_allOdds h).met _) (kn_cwV 0 hts q7_42 q7_44 q0_84 q1_10 q7_45 rfl rfl (by decide +kernel) ⟨(Nat.le_of_ble_eq_true rfl), (Nat.le_of_ble_eq_true rfl)⟩) [0] rfl (by decide) 0 rfl rfl rfl rfl hl.1 rfl (Nat.le_of_ble_eq_true rfl) (kn_dec tX9_gone 41 rfl) ⟨(Nat.le_of_ble_eq_true rfl), (Nat.le_of_ble_eq_true rfl)⟩) (fun r2 u3 H locs h I => ?_)
      have I : kn_I D tc (kn_A w0 s.heap.size) s.heap [(kModel, ad_m, _)] _ _ := I
      refine lv_imul hx hb (kn_dec tX9_gone 42 rfl) ?_
      refine lv_topi (fun x4 ex4 => ?_)
      have h := h x4 ex4
      refine lv_istore_n (lv' := [(3, .int _), (0, .ref (ad_m 0)), (1, .int _), (2, .int _)]) hx hb (kn_dec tX9_gone 43 rfl) rfl hl (by decide) rfl (fun ls hl => ?_)
      refine lv_iload_n hx hb (kn_dec tX9_gone 44 rfl) rfl (lv_at hl 0 rfl) ?_
      refine lv_iload_n hx hb (kn_dec tX9_gone 45 rfl) rfl (lv_at hl 0 rfl) ?_
      refine lv_bipush (v := (100)) hx hb (kn_dec tX9_gone 46 rfl) (by decide) ?_
      refine lv_aload_n hx hb (kn_dec tX9_gone 47 rfl) rfl (lv_at hl 1 rfl) ?_
      refine kw_getl hx hb hts inX9 hown hK I 0 rfl rfl 1 (by decide) rfl (hts _ q4_201) (kn_dec tX9_gone 48 rfl) rfl ?_
      refine lv_iconst (v := (2)) hx hb (kn_dec tX9_gone 49 rfl) (by decide) ?_
      refine kw_iald hx hb hK I 0 rfl 1 12 (List.mem_of_getElem? (i := 0) rfl) (by unfold vp_in; decide) (kn_dec tX9_gone 50 rfl) ?_
      refine lv_isub hx hb (kn_dec tX9_gone 51 rfl) ?_
      refine lv_iload_n hx hb (kn_dec tX9_gone 52 rfl) rfl (lv_at hl 3 rfl) ?_
      refine lv_imul hx hb (kn_dec tX9_gone 53 rfl) ?_
      refine lv_iadd hx hb (kn_dec tX9_gone 54 rfl) ?_
      refine lv_iload_n hx hb (kn_dec tX9_gone 55 rfl) rfl (lv_at hl 2 rfl) ?_
      refine kw_calli (wc := []) (wr := [(kModel, ad_m, _)]) I hA [] [0] rfl rfl (by decide) (by decide) (kn_runS (As := [.int _, .int _, .int _]) S0 hK hZ hA I ((ctX9_fraction h).met _) (kn_cwS 3 hts q7_46 q7_47 q1_10 q7_48 rfl rfl (by decide +kernel) ⟨(Nat.le_of_ble_eq_true rfl), (Nat.le_of_ble_eq_true rfl)⟩) [] rfl (by decide) rfl hl.1 rfl (Nat.le_of_ble_eq_true rfl) (kn_dec tX9_gone 56 rfl) ⟨(Nat.le_of_ble_eq_true rfl), (Nat.le_of_ble_eq_true rfl)⟩) (fun r5 u6 H locs h I => ?_)
      have I : kn_I D tc (kn_A w0 s.heap.size) s.heap [(kModel, ad_m, _)] _ _ := I
      exact kw_iret hx hb hr hlocks I () rfl h (kn_dec tX9_gone 57 rfl)
    · have h := h.2 c1
      refine lv_iload_n hx hb (kn_dec tX9_gone 21 rfl) rfl (lv_at hl 2 rfl) ?_
      refine lv_aload_n hx hb (kn_dec tX9_gone 22 rfl) rfl (lv_at hl 0 rfl) ?_
      refine lv_iload_n hx hb (kn_dec tX9_gone 23 rfl) rfl (lv_at hl 3 rfl) ?_
      refine kw_calli (wc := [(kModel, ad_m, _)]) (wr := []) I hA [0] [] rfl rfl (by decide) (by decide) (kn_runV (As := [.int _]) S0 hK hZ hA I ((ctX9_whoTried h).met _) (kn_cwV 1 hts q6_108 q6_110 q0_59 q1_10 q6_111 rfl rfl (by decide +kernel) ⟨(Nat.le_of_ble_eq_true rfl), (Nat.le_of_ble_eq_true rfl)⟩) [0] rfl (by decide) 0 rfl rfl rfl rfl hl.1 rfl (Nat.le_of_ble_eq_true rfl) (kn_dec tX9_gone 24 rfl) ⟨(Nat.le_of_ble_eq_true rfl), (Nat.le_of_ble_eq_true rfl)⟩) (fun r7 u8 H locs h I => ?_)
      have I : kn_I D tc (kn_A w0 s.heap.size) s.heap [(kModel, ad_m, _)] _ _ := I
      refine lv_if_ne (tgt := 51) hx hb (kn_dec tX9_gone 25 rfl) (by decide) (fun c9 => ?_) (fun c9 => ?_)
      · have h := h.1 c9
        refine lv_iconst (v := (0)) hx hb (kn_dec tX9_gone 31 rfl) (by decide) ?_
        exact wX9_gone_b52 X ih _ _ _ _ _ _ _  I (lv_sub hl [0, 1, 3] rfl) h
      · have h := h.2 c9
        refine lv_aload_n hx hb (kn_dec tX9_gone 26 rfl) rfl (lv_at hl 0 rfl) ?_
        refine kw_getl hx hb hts inX9 hown hK I 0 rfl rfl 4 (by decide) rfl (hts _ q4_204) (kn_dec tX9_gone 27 rfl) rfl ?_
        refine lv_iload_n hx hb (kn_dec tX9_gone 28 rfl) rfl (lv_at hl 3 rfl) ?_
        obtain ⟨hs10, h⟩ := h
        refine kw_iald hx hb hK I 0 rfl 4 10 (List.mem_of_getElem? (i := 3) rfl) hs10 (kn_dec tX9_gone 29 rfl) ?_
        refine lv_goto (tgt := 52) hx hb (kn_dec tX9_gone 30 rfl) (by decide) ?_
        exact wX9_gone_b52 X ih _ _ _ _ _ _ _  I (lv_sub hl [0, 1, 3] rfl) h
def PX9_gone  (v_m : OV) (a1 : Int32) (post : Int32 → Prop) : Prop := (PX9_isHill v_m (fun r1 => ((r1 = ((0 : Int32)) → post ((-1 : Int32))) ∧ (¬ r1 = ((0 : Int32)) → (PX9_in a1.toInt64 ((0 : Int64)) ((1 : Int64)) (fun r4 => ((¬ r4 = ((0 : Int32)) → (∃ n7 : Nat, PX9_gone_L23 v_m post n7 a1 ((0 : Int32)) ((0 : Int32)))) ∧ (r4 = ((0 : Int32)) → post ((-1 : Int32))))))))))
set_option maxRecDepth 100000 in
set_option maxHeartbeats 1000000 in
theorem ctX9_gone {l : Launch} {D : va_G} {tc : Nat → ClassId} {Z : (Nat → Nat) × (Nat → Nat)}  {ad_m : Nat → Nat} {v_m : OV} {a1 : Int32}    {post : Int32 → Prop} (h : PX9_gone  v_m a1 post) : CTi l D tc Z yX9_gone (Cond.code yX9_gone cX9_gone 4 (some .int) :: kn_all) rmX9_gone 0 0 [.ref (ad_m 0), .int a1] [(kModel, ad_m, v_m)] (fun (u : Unit) => [(kModel, ad_m, v_m)]) (fun (r : Int32) (u : Unit) => post r) := by
  refine kn_ofi (cc := cX9_gone) (nL := 4) (ret := (some .int)) (lv := [(0, .ref (ad_m 0)), (1, .int a1)]) (by decide) (Nat.le_of_ble_eq_true rfl) rfl (fun p e s m below meth c ls X I hl _ => ?_)
  obtain ⟨S0, hr, hlocks, hK, hZ, hA⟩ := id X
  obtain ⟨hx, hb, hml, hown, hts⟩ := id S0
  unfold PX9_gone at h
  refine lv_aload_n hx hb (kn_dec tX9_gone 0 rfl) rfl (lv_at hl 0 rfl) ?_
  refine kw_calli (wc := [(kModel, ad_m, _)]) (wr := []) I hA [0] [] rfl rfl (by decide) (by decide) (kn_runV (As := []) S0 hK hZ hA I ((ctX9_isHill h).met _) (kn_cwV 0 hts q6_147 q6_149 q0_64 q1_10 q6_150 rfl rfl (by decide +kernel) ⟨(Nat.le_of_ble_eq_true rfl), (Nat.le_of_ble_eq_true rfl)⟩) [0] rfl (by decide) 0 rfl rfl rfl rfl hl.1 rfl (Nat.le_of_ble_eq_true rfl) (kn_dec tX9_gone 1 rfl) ⟨(Nat.le_of_ble_eq_true rfl), (Nat.le_of_ble_eq_true rfl)⟩) (fun r1 u2 H locs h I => ?_)
  obtain ⟨hz_r1, h⟩ := h
  have I : kn_I D tc (kn_A _ s.heap.size) s.heap [(kModel, ad_m, _)] _ _ := I
  refine lv_if_eq (tgt := 17) hx hb (kn_dec tX9_gone 2 rfl) (by decide) (fun c3 => ?_) (fun c3 => ?_)
  · have h := h.1 c3
    refine lv_iconst (v := (-1)) hx hb (kn_dec tX9_gone 9 rfl) (by decide) ?_
    exact kw_iret hx hb hr hlocks I () rfl h (kn_dec tX9_gone 10 rfl)
  · have h := h.2 c3
    refine lv_iload_n hx hb (kn_dec tX9_gone 3 rfl) rfl (lv_at hl 1 rfl) ?_
    refine lv_i2l hx hb (kn_dec tX9_gone 4 rfl) rfl ?_
    refine lv_lconst (v := 0) hx hb (kn_dec tX9_gone 5 rfl) (by decide) ?_
    refine lv_lconst (v := 1) hx hb (kn_dec tX9_gone 6 rfl) (by decide) ?_
    refine kw_calli (wc := []) (wr := [(kModel, ad_m, _)]) I hA [] [0] rfl rfl (by decide) (by decide) (kn_runS (As := [.long _, .long _, .long _]) S0 hK hZ hA I ((ctX9_in h).met _) (kn_cwS 3 hts q6_1 q6_2 q1_10 q6_3 rfl rfl (by decide +kernel) ⟨(Nat.le_of_ble_eq_true rfl), (Nat.le_of_ble_eq_true rfl)⟩) [] rfl (by decide) rfl hl.1 rfl (Nat.le_of_ble_eq_true rfl) (kn_dec tX9_gone 7 rfl) ⟨(Nat.le_of_ble_eq_true rfl), (Nat.le_of_ble_eq_true rfl)⟩) (fun r4 u5 H locs h I => ?_)
    obtain ⟨hz_r4, h⟩ := h
    have I : kn_I D tc (kn_A _ s.heap.size) s.heap [(kModel, ad_m, _)] _ _ := I
    refine lv_if_ne (tgt := 19) hx hb (kn_dec tX9_gone 8 rfl) (by decide) (fun c6 => ?_) (fun c6 => ?_)
    · have h := h.1 c6
      refine lv_iconst (v := (0)) hx hb (kn_dec tX9_gone 11 rfl) (by decide) ?_
      refine lv_istore_n (lv' := [(2, .int _), (0, .ref (ad_m 0)), (1, .int _)]) hx hb (kn_dec tX9_gone 12 rfl) rfl hl (by decide) rfl (fun ls hl => ?_)
      refine lv_iconst (v := (0)) hx hb (kn_dec tX9_gone 13 rfl) (by decide) ?_
      refine lv_istore_n (lv' := [(3, .int _), (2, .int _), (0, .ref (ad_m 0)), (1, .int _)]) hx hb (kn_dec tX9_gone 14 rfl) rfl hl (by decide) rfl (fun ls hl => ?_)
      obtain ⟨n7, h⟩ := h
      exact wX9_gone_L23 X n7 _ _ _ _ _ _  I (lv_sub hl [2, 3, 1, 0] rfl) h
    · have h := h.2 c6
      refine lv_iconst (v := (-1)) hx hb (kn_dec tX9_gone 9 rfl) (by decide) ?_
      exact kw_iret hx hb hr hlocks I () rfl h (kn_dec tX9_gone 10 rfl)

/-! X9_hint -/
abbrev rmX9_hint : Room := { frames := 1, cells := 0, slots := 0, locals := 25 }
def PX9_hint_b121 (v_m : OV) (K32 : Int32 → Int32 → Int32 → Int32 → Int32 → Prop) (post : Int32 → Prop) (y1 : Int32) (y2 : Int32) (y5 : Int32) (y7 : Int32) : Prop := (∀ x1 : Int32, x1 = y5 + (1 : Int32) → K32 y1 y2 y5 y7 x1)
set_option maxRecDepth 100000 in
set_option maxHeartbeats 1000000 in
theorem wX9_hint_b121 {v_m : OV} {K32 : Int32 → Int32 → Int32 → Int32 → Int32 → Prop} {post : Int32 → Prop} {ad_m : Nat → Nat} (X : kn_X p s m args meth c cX9_hint 8 (some .int) RX9 kn_all D tc Z (kn_A w0 s.heap.size))   (hK32 : ∀ (H : Heap) (locs : List Loc) (ls : Array Slot) (y1 : Int32) (y2 : Int32) (y3 : Int32) (y4 : Int32) (y5 : Int32), kn_I D tc (kn_A w0 s.heap.size) s.heap [(kModel, ad_m, v_m)] H locs → lv_has ls 8 [(0, .ref (ad_m 0)), (1, .int y1), (2, .int y2), (3, .int y3), (4, .int y4), (5, .int y5)] → K32 y1 y2 y3 y4 y5 → W p l e rmX9_hint s m args below meth c H locs 0 0 (kn_Qi D tc w0 (fun (u : Unit) => [(kModel, ad_m, v_m)]) (fun (r : Int32) (u : Unit) => post r) below args s 0 0) (F0 m 32 ls [])) : ∀ (H : Heap) (locs : List Loc) (ls : Array Slot) (y1 : Int32) (y2 : Int32) (y5 : Int32) (y7 : Int32), kn_I D tc (kn_A w0 s.heap.size) s.heap [(kModel, ad_m, v_m)] H locs → lv_has ls 8 [(0, .ref (ad_m 0)), (1, .int y1), (2, .int y2), (5, .int y5), (7, .int y7)] → PX9_hint_b121 v_m K32 post y1 y2 y5 y7 → W p l e rmX9_hint s m args below meth c H locs 0 0 (kn_Qi D tc w0 (fun (u : Unit) => [(kModel, ad_m, v_m)]) (fun (r : Int32) (u : Unit) => post r) below args s 0 0) (F0 m 121 ls []) := by
  obtain ⟨S0, hr, hlocks, hK, hZ, hA⟩ := id X
  obtain ⟨hx, hb, hml, hown, hts⟩ := id S0
  intro H locs ls y1 y2 y5 y7 I hl h
  unfold PX9_hint_b121 at h
  refine lv_iload hx hb (kn_dec tX9_hint 66 rfl) (lv_at hl 3 rfl) ?_
  refine lv_istore_n (lv' := [(3, .int _), (0, .ref (ad_m 0)), (1, .int _), (2, .int _), (5, .int _), (7, .int _)]) hx hb (kn_dec tX9_hint 67 rfl) rfl hl (by decide) rfl (fun ls hl => ?_)
  refine lv_iload hx hb (kn_dec tX9_hint 68 rfl) (lv_at hl 5 rfl) ?_
  refine lv_istore (lv' := [(4, .int _), (3, .int _), (0, .ref (ad_m 0)), (1, .int _), (2, .int _), (5, .int _), (7, .int _)]) hx hb (kn_dec tX9_hint 69 rfl) hl (by decide) rfl (fun ls hl => ?_)
  refine kw_iinc (lvf := fun y => [(5, .int y), (4, .int _), (3, .int _), (0, .ref (ad_m 0)), (1, .int _), (2, .int _), (7, .int _)]) (nv := (1)) hx hb (kn_dec tX9_hint 70 rfl) hl (k := 5) rfl (by decide) (by decide) (fun _ => rfl) (fun x1 ex1 ls hl => ?_)
  have h := h x1 ex1
  refine lv_goto (tgt := 32) hx hb (kn_dec tX9_hint 71 rfl) (by decide) ?_
  exact hK32 _ _ _ _ _ _ _ _  I (lv_sub hl [3, 4, 5, 2, 1, 0] rfl) h
def PX9_hint_b108 (v_m : OV) (K32 : Int32 → Int32 → Int32 → Int32 → Int32 → Prop) (post : Int32 → Prop) (t0 : Int32) (y1 : Int32) (y2 : Int32) (y3 : Int32) (y4 : Int32) (y5 : Int32) : Prop := ((y3 = ((0 : Int32)) → PX9_hint_b121 v_m K32 post y1 y2 y5 t0) ∧ (¬ y3 = ((0 : Int32)) → ((y4 ≤ t0 → (∀ x3 : Int32, x3 = y5 + (1 : Int32) → K32 y1 y2 y3 y4 x3)) ∧ (¬ y4 ≤ t0 → PX9_hint_b121 v_m K32 post y1 y2 y5 t0))))
set_option maxRecDepth 100000 in
set_option maxHeartbeats 1000000 in
theorem wX9_hint_b108 {v_m : OV} {K32 : Int32 → Int32 → Int32 → Int32 → Int32 → Prop} {post : Int32 → Prop} {ad_m : Nat → Nat} (X : kn_X p s m args meth c cX9_hint 8 (some .int) RX9 kn_all D tc Z (kn_A w0 s.heap.size))   (hK32 : ∀ (H : Heap) (locs : List Loc) (ls : Array Slot) (y1 : Int32) (y2 : Int32) (y3 : Int32) (y4 : Int32) (y5 : Int32), kn_I D tc (kn_A w0 s.heap.size) s.heap [(kModel, ad_m, v_m)] H locs → lv_has ls 8 [(0, .ref (ad_m 0)), (1, .int y1), (2, .int y2), (3, .int y3), (4, .int y4), (5, .int y5)] → K32 y1 y2 y3 y4 y5 → W p l e rmX9_hint s m args below meth c H locs 0 0 (kn_Qi D tc w0 (fun (u : Unit) => [(kModel, ad_m, v_m)]) (fun (r : Int32) (u : Unit) => post r) below args s 0 0) (F0 m 32 ls [])) : ∀ (H : Heap) (locs : List Loc) (ls : Array Slot) (t0 : Int32) (y1 : Int32) (y2 : Int32) (y3 : Int32) (y4 : Int32) (y5 : Int32), kn_I D tc (kn_A w0 s.heap.size) s.heap [(kModel, ad_m, v_m)] H locs → lv_has ls 8 [(0, .ref (ad_m 0)), (1, .int y1), (2, .int y2), (3, .int y3), (4, .int y4), (5, .int y5)] → PX9_hint_b108 v_m K32 post t0 y1 y2 y3 y4 y5 → W p l e rmX9_hint s m args below meth c H locs 0 0 (kn_Qi D tc w0 (fun (u : Unit) => [(kModel, ad_m, v_m)]) (fun (r : Int32) (u : Unit) => post r) below args s 0 0) (F0 m 108 ls [.int t0]) := by
  obtain ⟨S0, hr, hlocks, hK, hZ, hA⟩ := id X
  obtain ⟨hx, hb, hml, hown, hts⟩ := id S0
  intro H locs ls t0 y1 y2 y3 y4 y5 I hl h
  unfold PX9_hint_b108 at h
  refine lv_istore (lv' := [(7, .int _), (0, .ref (ad_m 0)), (1, .int _), (2, .int _), (3, .int _), (4, .int _), (5, .int _)]) hx hb (kn_dec tX9_hint 60 rfl) hl (by decide) rfl (fun ls hl => ?_)
  refine lv_iload_n hx hb (kn_dec tX9_hint 61 rfl) rfl (lv_at hl 4 rfl) ?_
  refine lv_if_eq (tgt := 121) hx hb (kn_dec tX9_hint 62 rfl) (by decide) (fun c1 => ?_) (fun c1 => ?_)
  · have h := h.1 c1
    exact wX9_hint_b121 X hK32 _ _ _ _ _ _ _  I (lv_sub hl [1, 2, 3, 6, 0] rfl) h
  · have h := h.2 c1
    refine lv_iload hx hb (kn_dec tX9_hint 63 rfl) (lv_at hl 0 rfl) ?_
    refine lv_iload hx hb (kn_dec tX9_hint 64 rfl) (lv_at hl 5 rfl) ?_
    refine lv_icmp_ge (tgt := 128) hx hb (kn_dec tX9_hint 65 rfl) (by decide) (fun c2 => ?_) (fun c2 => ?_)
    · have h := h.1 c2
      refine kw_iinc (lvf := fun y => [(5, .int y), (7, .int _), (0, .ref (ad_m 0)), (1, .int _), (2, .int _), (3, .int _), (4, .int _)]) (nv := (1)) hx hb (kn_dec tX9_hint 70 rfl) hl (k := 6) rfl (by decide) (by decide) (fun _ => rfl) (fun x3 ex3 ls hl => ?_)
      have h := h x3 ex3
      refine lv_goto (tgt := 32) hx hb (kn_dec tX9_hint 71 rfl) (by decide) ?_
      exact hK32 _ _ _ _ _ _ _ _  I (lv_sub hl [2, 3, 4, 5, 6, 0] rfl) h
    · have h := h.2 c2
      exact wX9_hint_b121 X hK32 _ _ _ _ _ _ _  I (lv_sub hl [1, 2, 3, 6, 0] rfl) h
def PX9_hint_b81 (v_m : OV) (K32 : Int32 → Int32 → Int32 → Int32 → Int32 → Prop) (K45 : Int32 → Int32 → Int32 → Int32 → Int32 → Int32 → Int32 → Prop) (post : Int32 → Prop) (t0 : Int32) (t1 : Int32) (y1 : Int32) (y2 : Int32) (y3 : Int32) (y4 : Int32) (y5 : Int32) (y7 : Int32) : Prop := (∀ x1 : Int32, x1 = (t0 + t1) → (∀ x2 : Int32, x2 = y7 + (1 : Int32) → K45 y1 y2 y3 y4 y5 x1 x2))
set_option maxRecDepth 100000 in
set_option maxHeartbeats 1000000 in
theorem wX9_hint_b81 {v_m : OV} {K32 : Int32 → Int32 → Int32 → Int32 → Int32 → Prop} {K45 : Int32 → Int32 → Int32 → Int32 → Int32 → Int32 → Int32 → Prop} {post : Int32 → Prop} {ad_m : Nat → Nat} (X : kn_X p s m args meth c cX9_hint 8 (some .int) RX9 kn_all D tc Z (kn_A w0 s.heap.size))   (hK32 : ∀ (H : Heap) (locs : List Loc) (ls : Array Slot) (y1 : Int32) (y2 : Int32) (y3 : Int32) (y4 : Int32) (y5 : Int32), kn_I D tc (kn_A w0 s.heap.size) s.heap [(kModel, ad_m, v_m)] H locs → lv_has ls 8 [(0, .ref (ad_m 0)), (1, .int y1), (2, .int y2), (3, .int y3), (4, .int y4), (5, .int y5)] → K32 y1 y2 y3 y4 y5 → W p l e rmX9_hint s m args below meth c H locs 0 0 (kn_Qi D tc w0 (fun (u : Unit) => [(kModel, ad_m, v_m)]) (fun (r : Int32) (u : Unit) => post r) below args s 0 0) (F0 m 32 ls [])) (hK45 : ∀ (H : Heap) (locs : List Loc) (ls : Array Slot) (y1 : Int32) (y2 : Int32) (y3 : Int32) (y4 : Int32) (y5 : Int32) (y6 : Int32) (y7 : Int32), kn_I D tc (kn_A w0 s.heap.size) s.heap [(kModel, ad_m, v_m)] H locs → lv_has ls 8 [(0, .ref (ad_m 0)), (1, .int y1), (2, .int y2), (3, .int y3), (4, .int y4), (5, .int y5), (6, .int y6), (7, .int y7)] → K45 y1 y2 y3 y4 y5 y6 y7 → W p l e rmX9_hint s m args below meth c H locs 0 0 (kn_Qi D tc w0 (fun (u : Unit) => [(kModel, ad_m, v_m)]) (fun (r : Int32) (u : Unit) => post r) below args s 0 0) (F0 m 45 ls [])) : ∀ (H : Heap) (locs : List Loc) (ls : Array Slot) (t0 : Int32) (t1 : Int32) (y1 : Int32) (y2 : Int32) (y3 : Int32) (y4 : Int32) (y5 : Int32) (y7 : Int32), kn_I D tc (kn_A w0 s.heap.size) s.heap [(kModel, ad_m, v_m)] H locs → lv_has ls 8 [(0, .ref (ad_m 0)), (1, .int y1), (2, .int y2), (3, .int y3), (4, .int y4), (5, .int y5), (7, .int y7)] → PX9_hint_b81 v_m K32 K45 post t0 t1 y1 y2 y3 y4 y5 y7 → W p l e rmX9_hint s m args below meth c H locs 0 0 (kn_Qi D tc w0 (fun (u : Unit) => [(kModel, ad_m, v_m)]) (fun (r : Int32) (u : Unit) => post r) below args s 0 0) (F0 m 81 ls [.int t1, .int t0]) := by
  obtain ⟨S0, hr, hlocks, hK, hZ, hA⟩ := id X
  obtain ⟨hx, hb, hml, hown, hts⟩ := id S0
  intro H locs ls t0 t1 y1 y2 y3 y4 y5 y7 I hl h
  unfold PX9_hint_b81 at h
  refine lv_iadd hx hb (kn_dec tX9_hint 46 rfl) ?_
  refine lv_topi (fun x1 ex1 => ?_)
  have h := h x1 ex1
  refine lv_istore (lv' := [(6, .int _), (0, .ref (ad_m 0)), (1, .int _), (2, .int _), (3, .int _), (4, .int _), (5, .int _), (7, .int _)]) hx hb (kn_dec tX9_hint 47 rfl) hl (by decide) rfl (fun ls hl => ?_)
  refine kw_iinc (lvf := fun y => [(7, .int y), (6, .int _), (0, .ref (ad_m 0)), (1, .int _), (2, .int _), (3, .int _), (4, .int _), (5, .int _)]) (nv := (1)) hx hb (kn_dec tX9_hint 48 rfl) hl (k := 7) rfl (by decide) (by decide) (fun _ => rfl) (fun x2 ex2 ls hl => ?_)
  have h := h x2 ex2
  refine lv_goto (tgt := 45) hx hb (kn_dec tX9_hint 49 rfl) (by decide) ?_
  exact hK45 _ _ _ _ _ _ _ _ _ _  I (lv_sub hl [2, 3, 4, 5, 6, 7, 1, 0] rfl) h
def PX9_hint_L45 (v_m : OV) (K32 : Int32 → Int32 → Int32 → Int32 → Int32 → Prop) (post : Int32 → Prop) : Nat → Int32 → Int32 → Int32 → Int32 → Int32 → Int32 → Int32 → Prop
  | 0, _, _, _, _, _, _, _ => False
  | n + 1, y1, y2, y3, y4, y5, y6, y7 => (((v_m.2.1 1 ((3 : Int32)).toNatClampNeg) ≤ y7 → ((y6 ≤ (y2 - y6) → PX9_hint_b108 v_m K32 post (y2 - y6) y1 y2 y3 y4 y5) ∧ (¬ y6 ≤ (y2 - y6) → PX9_hint_b108 v_m K32 post y6 y1 y2 y3 y4 y5))) ∧ (¬ (v_m.2.1 1 ((3 : Int32)).toNatClampNeg) ≤ y7 → (vp_in y7 10 ∧ ((y5 ≤ (v_m.2.1 2 y7.toNatClampNeg) → PX9_hint_b81 v_m K32 (PX9_hint_L45 v_m K32 post n) post y6 ((0 : Int32)) y1 y2 y3 y4 y5 y7) ∧ (¬ y5 ≤ (v_m.2.1 2 y7.toNatClampNeg) → (vp_in y7 10 ∧ PX9_hint_b81 v_m K32 (PX9_hint_L45 v_m K32 post n) post y6 (v_m.2.1 4 y7.toNatClampNeg) y1 y2 y3 y4 y5 y7))))))
set_option maxRecDepth 100000 in
set_option maxHeartbeats 1000000 in
theorem wX9_hint_L45 {v_m : OV} {K32 : Int32 → Int32 → Int32 → Int32 → Int32 → Prop} {post : Int32 → Prop} {ad_m : Nat → Nat} (X : kn_X p s m args meth c cX9_hint 8 (some .int) RX9 kn_all D tc Z (kn_A w0 s.heap.size))   (hK32 : ∀ (H : Heap) (locs : List Loc) (ls : Array Slot) (y1 : Int32) (y2 : Int32) (y3 : Int32) (y4 : Int32) (y5 : Int32), kn_I D tc (kn_A w0 s.heap.size) s.heap [(kModel, ad_m, v_m)] H locs → lv_has ls 8 [(0, .ref (ad_m 0)), (1, .int y1), (2, .int y2), (3, .int y3), (4, .int y4), (5, .int y5)] → K32 y1 y2 y3 y4 y5 → W p l e rmX9_hint s m args below meth c H locs 0 0 (kn_Qi D tc w0 (fun (u : Unit) => [(kModel, ad_m, v_m)]) (fun (r : Int32) (u : Unit) => post r) below args s 0 0) (F0 m 32 ls [])) : ∀ n : Nat, ∀ (H : Heap) (locs : List Loc) (ls : Array Slot) (y1 : Int32) (y2 : Int32) (y3 : Int32) (y4 : Int32) (y5 : Int32) (y6 : Int32) (y7 : Int32), kn_I D tc (kn_A w0 s.heap.size) s.heap [(kModel, ad_m, v_m)] H locs → lv_has ls 8 [(0, .ref (ad_m 0)), (1, .int y1), (2, .int y2), (3, .int y3), (4, .int y4), (5, .int y5), (6, .int y6), (7, .int y7)] → PX9_hint_L45 v_m K32 post n y1 y2 y3 y4 y5 y6 y7 → W p l e rmX9_hint s m args below meth c H locs 0 0 (kn_Qi D tc w0 (fun (u : Unit) => [(kModel, ad_m, v_m)]) (fun (r : Int32) (u : Unit) => post r) below args s 0 0) (F0 m 45 ls []) := by
  obtain ⟨S0, hr, hlocks, hK, hZ, hA⟩ := id X
  obtain ⟨hx, hb, hml, hown, hts⟩ := id S0
  intro n
  induction n with
  | zero =>
    intro H locs ls y1 y2 y3 y4 y5 y6 y7 I hl h
    unfold PX9_hint_L45 at h
    exact h.elim
  | succ n ih =>
    intro H locs ls y1 y2 y3 y4 y5 y6 y7 I hl h
    unfold PX9_hint_L45 at h
    refine lv_iload hx hb (kn_dec tX9_hint 27 rfl) (lv_at hl 7 rfl) ?_
    refine lv_aload_n hx hb (kn_dec tX9_hint 28 rfl) rfl (lv_at hl 0 rfl) ?_
    refine kw_getl hx hb hts inX9 hown hK I 0 rfl rfl 1 (by decide) rfl (hts _ q4_201) (kn_dec tX9_hint 29 rfl) rfl ?_
    refine lv_iconst (v := (3)) hx hb (kn_dec tX9_hint 30 rfl) (by decide) ?_
    refine kw_iald hx hb hK I 0 rfl 1 12 (List.mem_of_getElem? (i := 0) rfl) (by unfold vp_in; decide) (kn_dec tX9_hint 31 rfl) ?_
    refine lv_icmp_ge (tgt := 90) hx hb (kn_dec tX9_hint 32 rfl) (by decide) (fun c1 => ?_) (fun c1 => ?_)
    · have h := h.1 c1
      refine lv_iload hx hb (kn_dec tX9_hint 50 rfl) (lv_at hl 6 rfl) ?_
      refine lv_iload_n hx hb (kn_dec tX9_hint 51 rfl) rfl (lv_at hl 2 rfl) ?_
      refine lv_iload hx hb (kn_dec tX9_hint 52 rfl) (lv_at hl 6 rfl) ?_
      refine lv_isub hx hb (kn_dec tX9_hint 53 rfl) ?_
      refine lv_icmp_le (tgt := 104) hx hb (kn_dec tX9_hint 54 rfl) (by decide) (fun c2 => ?_) (fun c2 => ?_)
      · have h := h.1 c2
        refine lv_iload_n hx hb (kn_dec tX9_hint 57 rfl) rfl (lv_at hl 2 rfl) ?_
        refine lv_iload hx hb (kn_dec tX9_hint 58 rfl) (lv_at hl 6 rfl) ?_
        refine lv_isub hx hb (kn_dec tX9_hint 59 rfl) ?_
        exact wX9_hint_b108 X hK32 _ _ _ _ _ _ _ _ _  I (lv_sub hl [0, 1, 2, 3, 4, 5] rfl) h
      · have h := h.2 c2
        refine lv_iload hx hb (kn_dec tX9_hint 55 rfl) (lv_at hl 6 rfl) ?_
        refine lv_goto (tgt := 108) hx hb (kn_dec tX9_hint 56 rfl) (by decide) ?_
        exact wX9_hint_b108 X hK32 _ _ _ _ _ _ _ _ _  I (lv_sub hl [0, 1, 2, 3, 4, 5] rfl) h
    · have h := h.2 c1
      refine lv_iload hx hb (kn_dec tX9_hint 33 rfl) (lv_at hl 6 rfl) ?_
      refine lv_aload_n hx hb (kn_dec tX9_hint 34 rfl) rfl (lv_at hl 0 rfl) ?_
      refine kw_getl hx hb hts inX9 hown hK I 0 rfl rfl 2 (by decide) rfl (hts _ q4_202) (kn_dec tX9_hint 35 rfl) rfl ?_
      refine lv_iload hx hb (kn_dec tX9_hint 36 rfl) (lv_at hl 7 rfl) ?_
      obtain ⟨hs3, h⟩ := h
      refine kw_iald hx hb hK I 0 rfl 2 10 (List.mem_of_getElem? (i := 1) rfl) hs3 (kn_dec tX9_hint 37 rfl) ?_
      refine lv_iload hx hb (kn_dec tX9_hint 38 rfl) (lv_at hl 5 rfl) ?_
      refine lv_icmp_ge (tgt := 80) hx hb (kn_dec tX9_hint 39 rfl) (by decide) (fun c4 => ?_) (fun c4 => ?_)
      · have h := h.1 c4
        refine lv_iconst (v := (0)) hx hb (kn_dec tX9_hint 45 rfl) (by decide) ?_
        exact wX9_hint_b81 X hK32 ih _ _ _ _ _ _ _ _ _ _ _  I (lv_sub hl [0, 1, 2, 3, 4, 5, 7] rfl) h
      · have h := h.2 c4
        refine lv_aload_n hx hb (kn_dec tX9_hint 40 rfl) rfl (lv_at hl 0 rfl) ?_
        refine kw_getl hx hb hts inX9 hown hK I 0 rfl rfl 4 (by decide) rfl (hts _ q4_204) (kn_dec tX9_hint 41 rfl) rfl ?_
        refine lv_iload hx hb (kn_dec tX9_hint 42 rfl) (lv_at hl 7 rfl) ?_
        obtain ⟨hs5, h⟩ := h
        refine kw_iald hx hb hK I 0 rfl 4 10 (List.mem_of_getElem? (i := 3) rfl) hs5 (kn_dec tX9_hint 43 rfl) ?_
        refine lv_goto (tgt := 81) hx hb (kn_dec tX9_hint 44 rfl) (by decide) ?_
        exact wX9_hint_b81 X hK32 ih _ _ _ _ _ _ _ _ _ _ _  I (lv_sub hl [0, 1, 2, 3, 4, 5, 7] rfl) h
def PX9_hint_L32 (v_m : OV)  (post : Int32 → Prop) : Nat → Int32 → Int32 → Int32 → Int32 → Int32 → Prop
  | 0, _, _, _, _, _ => False
  | n + 1, y1, y2, y3, y4, y5 => ((((99 : Int32)) < y5 → ((¬ y1 = ((0 : Int32)) → post y4) ∧ (y1 = ((0 : Int32)) → post y3))) ∧ (¬ ((99 : Int32)) < y5 → (∃ n3 : Nat, PX9_hint_L45 v_m (PX9_hint_L32 v_m post n) post n3 y1 y2 y3 y4 y5 ((0 : Int32)) ((0 : Int32)))))
set_option maxRecDepth 100000 in
set_option maxHeartbeats 1000000 in
theorem wX9_hint_L32 {v_m : OV}  {post : Int32 → Prop} {ad_m : Nat → Nat} (X : kn_X p s m args meth c cX9_hint 8 (some .int) RX9 kn_all D tc Z (kn_A w0 s.heap.size))    : ∀ n : Nat, ∀ (H : Heap) (locs : List Loc) (ls : Array Slot) (y1 : Int32) (y2 : Int32) (y3 : Int32) (y4 : Int32) (y5 : Int32), kn_I D tc (kn_A w0 s.heap.size) s.heap [(kModel, ad_m, v_m)] H locs → lv_has ls 8 [(0, .ref (ad_m 0)), (1, .int y1), (2, .int y2), (3, .int y3), (4, .int y4), (5, .int y5)] → PX9_hint_L32 v_m post n y1 y2 y3 y4 y5 → W p l e rmX9_hint s m args below meth c H locs 0 0 (kn_Qi D tc w0 (fun (u : Unit) => [(kModel, ad_m, v_m)]) (fun (r : Int32) (u : Unit) => post r) below args s 0 0) (F0 m 32 ls []) := by
  obtain ⟨S0, hr, hlocks, hK, hZ, hA⟩ := id X
  obtain ⟨hx, hb, hml, hown, hts⟩ := id S0
  intro n
  induction n with
  | zero =>
    intro H locs ls y1 y2 y3 y4 y5 I hl h
    unfold PX9_hint_L32 at h
    exact h.elim
  | succ n ih =>
    intro H locs ls y1 y2 y3 y4 y5 I hl h
    unfold PX9_hint_L32 at h
    refine lv_iload hx hb (kn_dec tX9_hint 20 rfl) (lv_at hl 5 rfl) ?_
    refine lv_bipush (v := (99)) hx hb (kn_dec tX9_hint 21 rfl) (by decide) ?_
    refine lv_icmp_gt (tgt := 134) hx hb (kn_dec tX9_hint 22 rfl) (by decide) (fun c1 => ?_) (fun c1 => ?_)
    · have h := h.1 c1
      refine lv_iload_n hx hb (kn_dec tX9_hint 72 rfl) rfl (lv_at hl 1 rfl) ?_
      refine lv_if_ne (tgt := 142) hx hb (kn_dec tX9_hint 73 rfl) (by decide) (fun c2 => ?_) (fun c2 => ?_)
      · have h := h.1 c2
        refine lv_iload hx hb (kn_dec tX9_hint 76 rfl) (lv_at hl 4 rfl) ?_
        exact kw_iret hx hb hr hlocks I () rfl h (kn_dec tX9_hint 77 rfl)
      · have h := h.2 c2
        refine lv_iload_n hx hb (kn_dec tX9_hint 74 rfl) rfl (lv_at hl 3 rfl) ?_
        refine lv_goto (tgt := 144) hx hb (kn_dec tX9_hint 75 rfl) (by decide) ?_
        exact kw_iret hx hb hr hlocks I () rfl h (kn_dec tX9_hint 77 rfl)
    · have h := h.2 c1
      refine lv_iconst (v := (0)) hx hb (kn_dec tX9_hint 23 rfl) (by decide) ?_
      refine lv_istore (lv' := [(6, .int _), (0, .ref (ad_m 0)), (1, .int _), (2, .int _), (3, .int _), (4, .int _), (5, .int _)]) hx hb (kn_dec tX9_hint 24 rfl) hl (by decide) rfl (fun ls hl => ?_)
      refine lv_iconst (v := (0)) hx hb (kn_dec tX9_hint 25 rfl) (by decide) ?_
      refine lv_istore (lv' := [(7, .int _), (6, .int _), (0, .ref (ad_m 0)), (1, .int _), (2, .int _), (3, .int _), (4, .int _), (5, .int _)]) hx hb (kn_dec tX9_hint 26 rfl) hl (by decide) rfl (fun ls hl => ?_)
      obtain ⟨n3, h⟩ := h
      exact wX9_hint_L45 X ih n3 _ _ _ _ _ _ _ _ _ _  I (lv_sub hl [2, 3, 4, 5, 6, 7, 1, 0] rfl) h
def PX9_hint  (v_m : OV) (a1 : Int32) (post : Int32 → Prop) : Prop := (PX9_isHill v_m (fun r1 => ((r1 = ((0 : Int32)) → post ((-1 : Int32))) ∧ (¬ r1 = ((0 : Int32)) → (PX9_in a1.toInt64 ((0 : Int64)) ((1 : Int64)) (fun r4 => ((¬ r4 = ((0 : Int32)) → (PX9_allOdds v_m (fun r7 => (∃ n9 : Nat, PX9_hint_L32 v_m post n9 a1 r7 ((0 : Int32)) ((0 : Int32)) ((1 : Int32)))))) ∧ (r4 = ((0 : Int32)) → post ((-1 : Int32))))))))))
set_option maxRecDepth 100000 in
set_option maxHeartbeats 1000000 in
theorem ctX9_hint {l : Launch} {D : va_G} {tc : Nat → ClassId} {Z : (Nat → Nat) × (Nat → Nat)}  {ad_m : Nat → Nat} {v_m : OV} {a1 : Int32}    {post : Int32 → Prop} (h : PX9_hint  v_m a1 post) : CTi l D tc Z yX9_hint (Cond.code yX9_hint cX9_hint 8 (some .int) :: kn_all) rmX9_hint 0 0 [.ref (ad_m 0), .int a1] [(kModel, ad_m, v_m)] (fun (u : Unit) => [(kModel, ad_m, v_m)]) (fun (r : Int32) (u : Unit) => post r) := by
  refine kn_ofi (cc := cX9_hint) (nL := 8) (ret := (some .int)) (lv := [(0, .ref (ad_m 0)), (1, .int a1)]) (by decide) (Nat.le_of_ble_eq_true rfl) rfl (fun p e s m below meth c ls X I hl _ => ?_)
  obtain ⟨S0, hr, hlocks, hK, hZ, hA⟩ := id X
  obtain ⟨hx, hb, hml, hown, hts⟩ := id S0
  unfold PX9_hint at h
  refine lv_aload_n hx hb (kn_dec tX9_hint 0 rfl) rfl (lv_at hl 0 rfl) ?_
  refine kw_calli (wc := [(kModel, ad_m, _)]) (wr := []) I hA [0] [] rfl rfl (by decide) (by decide) (kn_runV (As := []) S0 hK hZ hA I ((ctX9_isHill h).met _) (kn_cwV 0 hts q6_147 q6_149 q0_64 q1_10 q6_150 rfl rfl (by decide +kernel) ⟨(Nat.le_of_ble_eq_true rfl), (Nat.le_of_ble_eq_true rfl)⟩) [0] rfl (by decide) 0 rfl rfl rfl rfl hl.1 rfl (Nat.le_of_ble_eq_true rfl) (kn_dec tX9_hint 1 rfl) ⟨(Nat.le_of_ble_eq_true rfl), (Nat.le_of_ble_eq_true rfl)⟩) (fun r1 u2 H locs h I => ?_)
  obtain ⟨hz_r1, h⟩ := h
  have I : kn_I D tc (kn_A _ s.heap.size) s.heap [(kModel, ad_m, _)] _ _ := I
  refine lv_if_eq (tgt := 17) hx hb (kn_dec tX9_hint 2 rfl) (by decide) (fun c3 => ?_) (fun c3 => ?_)
  · have h := h.1 c3
    refine lv_iconst (v := (-1)) hx hb (kn_dec tX9_hint 9 rfl) (by decide) ?_
    exact kw_iret hx hb hr hlocks I () rfl h (kn_dec tX9_hint 10 rfl)
  · have h := h.2 c3
    refine lv_iload_n hx hb (kn_dec tX9_hint 3 rfl) rfl (lv_at hl 1 rfl) ?_
    refine lv_i2l hx hb (kn_dec tX9_hint 4 rfl) rfl ?_
    refine lv_lconst (v := 0) hx hb (kn_dec tX9_hint 5 rfl) (by decide) ?_
    refine lv_lconst (v := 1) hx hb (kn_dec tX9_hint 6 rfl) (by decide) ?_
    refine kw_calli (wc := []) (wr := [(kModel, ad_m, _)]) I hA [] [0] rfl rfl (by decide) (by decide) (kn_runS (As := [.long _, .long _, .long _]) S0 hK hZ hA I ((ctX9_in h).met _) (kn_cwS 3 hts q6_1 q6_2 q1_10 q6_3 rfl rfl (by decide +kernel) ⟨(Nat.le_of_ble_eq_true rfl), (Nat.le_of_ble_eq_true rfl)⟩) [] rfl (by decide) rfl hl.1 rfl (Nat.le_of_ble_eq_true rfl) (kn_dec tX9_hint 7 rfl) ⟨(Nat.le_of_ble_eq_true rfl), (Nat.le_of_ble_eq_true rfl)⟩) (fun r4 u5 H locs h I => ?_)
    obtain ⟨hz_r4, h⟩ := h
    have I : kn_I D tc (kn_A _ s.heap.size) s.heap [(kModel, ad_m, _)] _ _ := I
    refine lv_if_ne (tgt := 19) hx hb (kn_dec tX9_hint 8 rfl) (by decide) (fun c6 => ?_) (fun c6 => ?_)
    · have h := h.1 c6
      refine lv_aload_n hx hb (kn_dec tX9_hint 11 rfl) rfl (lv_at hl 0 rfl) ?_
      refine kw_calli (wc := [(kModel, ad_m, _)]) (wr := []) I hA [0] [] rfl rfl (by decide) (by decide) (kn_runV (As := []) S0 hK hZ hA I ((ctX9_allOdds h).met _) (kn_cwV 0 hts q7_42 q7_44 q0_84 q1_10 q7_45 rfl rfl (by decide +kernel) ⟨(Nat.le_of_ble_eq_true rfl), (Nat.le_of_ble_eq_true rfl)⟩) [0] rfl (by decide) 0 rfl rfl rfl rfl hl.1 rfl (Nat.le_of_ble_eq_true rfl) (kn_dec tX9_hint 12 rfl) ⟨(Nat.le_of_ble_eq_true rfl), (Nat.le_of_ble_eq_true rfl)⟩) (fun r7 u8 H locs h I => ?_)
      have I : kn_I D tc (kn_A _ s.heap.size) s.heap [(kModel, ad_m, _)] _ _ := I
      refine lv_istore_n (lv' := [(2, .int _), (0, .ref (ad_m 0)), (1, .int _)]) hx hb (kn_dec tX9_hint 13 rfl) rfl hl (by decide) rfl (fun ls hl => ?_)
      refine lv_iconst (v := (0)) hx hb (kn_dec tX9_hint 14 rfl) (by decide) ?_
      refine lv_istore_n (lv' := [(3, .int _), (2, .int _), (0, .ref (ad_m 0)), (1, .int _)]) hx hb (kn_dec tX9_hint 15 rfl) rfl hl (by decide) rfl (fun ls hl => ?_)
      refine lv_iconst (v := (0)) hx hb (kn_dec tX9_hint 16 rfl) (by decide) ?_
      refine lv_istore (lv' := [(4, .int _), (3, .int _), (2, .int _), (0, .ref (ad_m 0)), (1, .int _)]) hx hb (kn_dec tX9_hint 17 rfl) hl (by decide) rfl (fun ls hl => ?_)
      refine lv_iconst (v := (1)) hx hb (kn_dec tX9_hint 18 rfl) (by decide) ?_
      refine lv_istore (lv' := [(5, .int _), (4, .int _), (3, .int _), (2, .int _), (0, .ref (ad_m 0)), (1, .int _)]) hx hb (kn_dec tX9_hint 19 rfl) hl (by decide) rfl (fun ls hl => ?_)
      obtain ⟨n9, h⟩ := h
      exact wX9_hint_L32 X n9 _ _ _ _ _ _ _ _  I (lv_sub hl [4, 5, 3, 2, 1, 0] rfl) h
    · have h := h.2 c6
      refine lv_iconst (v := (-1)) hx hb (kn_dec tX9_hint 9 rfl) (by decide) ?_
      exact kw_iret hx hb hr hlocks I () rfl h (kn_dec tX9_hint 10 rfl)

/-! X9_worth -/
abbrev rmX9_worth : Room := { frames := 9, cells := 0, slots := 0, locals := 207 }
def PX9_worth_L34   (post : Int32 → OV → Prop) : Nat → Int32 → Int32 → OV → Prop
  | 0, _, _, _ => False
  | n + 1, y2, y3, v_m => (((v_m.2.1 1 ((4 : Int32)).toNatClampNeg) ≤ y3 → (PX9_laysBack v_m (fun v_m2 => post y2 v_m2))) ∧ (¬ (v_m.2.1 1 ((4 : Int32)).toNatClampNeg) ≤ y3 → (vp_in y3 6 ∧ (∀ x5 : Int32, x5 = (y2 + (v_m.2.1 6 y3.toNatClampNeg)) → (∀ x6 : Int32, x6 = y3 + (1 : Int32) → PX9_worth_L34 post n x5 x6 v_m)))))
set_option maxRecDepth 100000 in
set_option maxHeartbeats 1000000 in
theorem wX9_worth_L34   {post : Int32 → OV → Prop} {ad_m : Nat → Nat} (X : kn_X p s m args meth c cX9_worth 4 (some .int) RX9 kn_all D tc Z (kn_A w0 s.heap.size))    : ∀ n : Nat, ∀ (H : Heap) (locs : List Loc) (ls : Array Slot) (y2 : Int32) (y3 : Int32) (v_m : OV), kn_I D tc (kn_A w0 s.heap.size) s.heap [(kModel, ad_m, v_m)] H locs → lv_has ls 4 [(0, .ref (ad_m 0)), (2, .int y2), (3, .int y3)] → PX9_worth_L34 post n y2 y3 v_m → W p l e rmX9_worth s m args below meth c H locs 0 0 (kn_Qi D tc w0 (fun (u : OV) => [(kModel, ad_m, u)]) (fun (r : Int32) (u : OV) => post r u) below args s 0 0) (F0 m 34 ls []) := by
  obtain ⟨S0, hr, hlocks, hK, hZ, hA⟩ := id X
  obtain ⟨hx, hb, hml, hown, hts⟩ := id S0
  intro n
  induction n with
  | zero =>
    intro H locs ls y2 y3 v_m I hl h
    unfold PX9_worth_L34 at h
    exact h.elim
  | succ n ih =>
    intro H locs ls y2 y3 v_m I hl h
    unfold PX9_worth_L34 at h
    refine lv_iload_n hx hb (kn_dec tX9_worth 20 rfl) rfl (lv_at hl 2 rfl) ?_
    refine lv_aload_n hx hb (kn_dec tX9_worth 21 rfl) rfl (lv_at hl 0 rfl) ?_
    refine kw_getl hx hb hts inX9 hown hK I 0 rfl rfl 1 (by decide) rfl (hts _ q4_201) (kn_dec tX9_worth 22 rfl) rfl ?_
    refine lv_iconst (v := (4)) hx hb (kn_dec tX9_worth 23 rfl) (by decide) ?_
    refine kw_iald hx hb hK I 0 rfl 1 12 (List.mem_of_getElem? (i := 0) rfl) (by unfold vp_in; decide) (kn_dec tX9_worth 24 rfl) ?_
    refine lv_icmp_ge (tgt := 59) hx hb (kn_dec tX9_worth 25 rfl) (by decide) (fun c1 => ?_) (fun c1 => ?_)
    · have h := h.1 c1
      refine lv_aload_n hx hb (kn_dec tX9_worth 35 rfl) rfl (lv_at hl 0 rfl) ?_
      refine kw_callv (wc := [(kModel, ad_m, _)]) (wr := []) I hA [0] [] rfl rfl (by decide) (by decide) (kn_runV (As := []) S0 hK hZ hA I ((ctX9_laysBack h).met _) (kn_cwV 0 hts q7_13 q7_15 q0_82 q1_10 q7_16 rfl rfl (by decide +kernel) ⟨(Nat.le_of_ble_eq_true rfl), (Nat.le_of_ble_eq_true rfl)⟩) [0] rfl (by decide) 0 rfl rfl rfl rfl hl.1 rfl (Nat.le_of_ble_eq_true rfl) (kn_dec tX9_worth 36 rfl) ⟨(Nat.le_of_ble_eq_true rfl), (Nat.le_of_ble_eq_true rfl)⟩) (fun u3 H locs h I => ?_)
      have I : kn_I D tc (kn_A w0 s.heap.size) s.heap [(kModel, ad_m, _)] _ _ := I
      refine lv_iload_n hx hb (kn_dec tX9_worth 37 rfl) rfl (lv_at hl 1 rfl) ?_
      exact kw_iret hx hb hr hlocks I _ rfl h (kn_dec tX9_worth 38 rfl)
    · have h := h.2 c1
      refine lv_iload_n hx hb (kn_dec tX9_worth 26 rfl) rfl (lv_at hl 1 rfl) ?_
      refine lv_aload_n hx hb (kn_dec tX9_worth 27 rfl) rfl (lv_at hl 0 rfl) ?_
      refine kw_getl hx hb hts inX9 hown hK I 0 rfl rfl 6 (by decide) rfl (hts _ q4_206) (kn_dec tX9_worth 28 rfl) rfl ?_
      refine lv_iload_n hx hb (kn_dec tX9_worth 29 rfl) rfl (lv_at hl 2 rfl) ?_
      obtain ⟨hs4, h⟩ := h
      refine kw_iald hx hb hK I 0 rfl 6 6 (List.mem_of_getElem? (i := 5) rfl) hs4 (kn_dec tX9_worth 30 rfl) ?_
      refine lv_iadd hx hb (kn_dec tX9_worth 31 rfl) ?_
      refine lv_topi (fun x5 ex5 => ?_)
      have h := h x5 ex5
      refine lv_istore_n (lv' := [(2, .int _), (0, .ref (ad_m 0)), (3, .int _)]) hx hb (kn_dec tX9_worth 32 rfl) rfl hl (by decide) rfl (fun ls hl => ?_)
      refine kw_iinc (lvf := fun y => [(3, .int y), (2, .int _), (0, .ref (ad_m 0))]) (nv := (1)) hx hb (kn_dec tX9_worth 33 rfl) hl (k := 2) rfl (by decide) (by decide) (fun _ => rfl) (fun x6 ex6 ls hl => ?_)
      have h := h x6 ex6
      refine lv_goto (tgt := 34) hx hb (kn_dec tX9_worth 34 rfl) (by decide) ?_
      exact ih _ _ _ _ _ _  I (lv_sub hl [2, 1, 0] rfl) h
def PX9_worth  (v_m : OV) (a1 : Int32) (post : Int32 → OV → Prop) : Prop := (PX9_isHill v_m (fun r1 => ((r1 = ((0 : Int32)) → post ((-1 : Int32)) v_m) ∧ (¬ r1 = ((0 : Int32)) → (PX9_in a1.toInt64 ((0 : Int64)) ((100 : Int64)) (fun r4 => ((¬ r4 = ((0 : Int32)) → (PX9_keepsAll v_m (fun v_m7 => (PX9_goFor v_m7 a1 (fun v_m9 => (∃ n11 : Nat, PX9_worth_L34 post n11 ((0 : Int32)) ((0 : Int32)) v_m9)))))) ∧ (r4 = ((0 : Int32)) → post ((-1 : Int32)) v_m))))))))
set_option maxRecDepth 100000 in
set_option maxHeartbeats 1000000 in
theorem ctX9_worth {l : Launch} {D : va_G} {tc : Nat → ClassId} {Z : (Nat → Nat) × (Nat → Nat)}  {ad_m : Nat → Nat} {v_m : OV} {a1 : Int32}    {post : Int32 → OV → Prop} (h : PX9_worth  v_m a1 post) : CTi l D tc Z yX9_worth (Cond.code yX9_worth cX9_worth 4 (some .int) :: kn_all) rmX9_worth 0 0 [.ref (ad_m 0), .int a1] [(kModel, ad_m, v_m)] (fun (u : OV) => [(kModel, ad_m, u)]) (fun (r : Int32) (u : OV) => post r u) := by
  refine kn_ofi (cc := cX9_worth) (nL := 4) (ret := (some .int)) (lv := [(0, .ref (ad_m 0)), (1, .int a1)]) (by decide) (Nat.le_of_ble_eq_true rfl) rfl (fun p e s m below meth c ls X I hl _ => ?_)
  obtain ⟨S0, hr, hlocks, hK, hZ, hA⟩ := id X
  obtain ⟨hx, hb, hml, hown, hts⟩ := id S0
  unfold PX9_worth at h
  refine lv_aload_n hx hb (kn_dec tX9_worth 0 rfl) rfl (lv_at hl 0 rfl) ?_
  refine kw_calli (wc := [(kModel, ad_m, _)]) (wr := []) I hA [0] [] rfl rfl (by decide) (by decide) (kn_runV (As := []) S0 hK hZ hA I ((ctX9_isHill h).met _) (kn_cwV 0 hts q6_147 q6_149 q0_64 q1_10 q6_150 rfl rfl (by decide +kernel) ⟨(Nat.le_of_ble_eq_true rfl), (Nat.le_of_ble_eq_true rfl)⟩) [0] rfl (by decide) 0 rfl rfl rfl rfl hl.1 rfl (Nat.le_of_ble_eq_true rfl) (kn_dec tX9_worth 1 rfl) ⟨(Nat.le_of_ble_eq_true rfl), (Nat.le_of_ble_eq_true rfl)⟩) (fun r1 u2 H locs h I => ?_)
  obtain ⟨hz_r1, h⟩ := h
  have I : kn_I D tc (kn_A _ s.heap.size) s.heap [(kModel, ad_m, _)] _ _ := I
  refine lv_if_eq (tgt := 19) hx hb (kn_dec tX9_worth 2 rfl) (by decide) (fun c3 => ?_) (fun c3 => ?_)
  · have h := h.1 c3
    refine lv_iconst (v := (-1)) hx hb (kn_dec tX9_worth 9 rfl) (by decide) ?_
    exact kw_iret hx hb hr hlocks I _ rfl h (kn_dec tX9_worth 10 rfl)
  · have h := h.2 c3
    refine lv_iload_n hx hb (kn_dec tX9_worth 3 rfl) rfl (lv_at hl 1 rfl) ?_
    refine lv_i2l hx hb (kn_dec tX9_worth 4 rfl) rfl ?_
    refine lv_lconst (v := 0) hx hb (kn_dec tX9_worth 5 rfl) (by decide) ?_
    refine lv_ldc2 (v := (100)) hx hb hown (hts _ q6_236) (kn_dec tX9_worth 6 rfl) ?_
    refine kw_calli (wc := []) (wr := [(kModel, ad_m, _)]) I hA [] [0] rfl rfl (by decide) (by decide) (kn_runS (As := [.long _, .long _, .long _]) S0 hK hZ hA I ((ctX9_in h).met _) (kn_cwS 3 hts q6_1 q6_2 q1_10 q6_3 rfl rfl (by decide +kernel) ⟨(Nat.le_of_ble_eq_true rfl), (Nat.le_of_ble_eq_true rfl)⟩) [] rfl (by decide) rfl hl.1 rfl (Nat.le_of_ble_eq_true rfl) (kn_dec tX9_worth 7 rfl) ⟨(Nat.le_of_ble_eq_true rfl), (Nat.le_of_ble_eq_true rfl)⟩) (fun r4 u5 H locs h I => ?_)
    obtain ⟨hz_r4, h⟩ := h
    have I : kn_I D tc (kn_A _ s.heap.size) s.heap [(kModel, ad_m, _)] _ _ := I
    refine lv_if_ne (tgt := 21) hx hb (kn_dec tX9_worth 8 rfl) (by decide) (fun c6 => ?_) (fun c6 => ?_)
    · have h := h.1 c6
      refine lv_aload_n hx hb (kn_dec tX9_worth 11 rfl) rfl (lv_at hl 0 rfl) ?_
      refine kw_callv (wc := [(kModel, ad_m, _)]) (wr := []) I hA [0] [] rfl rfl (by decide) (by decide) (kn_runV (As := []) S0 hK hZ hA I ((ctX9_keepsAll h).met _) (kn_cwV 0 hts q6_237 q6_239 q0_78 q1_10 q7_0 rfl rfl (by decide +kernel) ⟨(Nat.le_of_ble_eq_true rfl), (Nat.le_of_ble_eq_true rfl)⟩) [0] rfl (by decide) 0 rfl rfl rfl rfl hl.1 rfl (Nat.le_of_ble_eq_true rfl) (kn_dec tX9_worth 12 rfl) ⟨(Nat.le_of_ble_eq_true rfl), (Nat.le_of_ble_eq_true rfl)⟩) (fun u8 H locs h I => ?_)
      have I : kn_I D tc (kn_A _ s.heap.size) s.heap [(kModel, ad_m, _)] _ _ := I
      refine lv_aload_n hx hb (kn_dec tX9_worth 13 rfl) rfl (lv_at hl 0 rfl) ?_
      refine lv_iload_n hx hb (kn_dec tX9_worth 14 rfl) rfl (lv_at hl 1 rfl) ?_
      refine kw_callv (wc := [(kModel, ad_m, _)]) (wr := []) I hA [0] [] rfl rfl (by decide) (by decide) (kn_runV (As := [.int _]) S0 hK hZ hA I ((ctX9_goFor h).met _) (kn_cwV 1 hts q7_9 q7_11 q0_81 q1_10 q7_12 rfl rfl (by decide +kernel) ⟨(Nat.le_of_ble_eq_true rfl), (Nat.le_of_ble_eq_true rfl)⟩) [0] rfl (by decide) 0 rfl rfl rfl rfl hl.1 rfl (Nat.le_of_ble_eq_true rfl) (kn_dec tX9_worth 15 rfl) ⟨(Nat.le_of_ble_eq_true rfl), (Nat.le_of_ble_eq_true rfl)⟩) (fun u10 H locs h I => ?_)
      have I : kn_I D tc (kn_A _ s.heap.size) s.heap [(kModel, ad_m, _)] _ _ := I
      refine lv_iconst (v := (0)) hx hb (kn_dec tX9_worth 16 rfl) (by decide) ?_
      refine lv_istore_n (lv' := [(2, .int _), (0, .ref (ad_m 0)), (1, .int _)]) hx hb (kn_dec tX9_worth 17 rfl) rfl hl (by decide) rfl (fun ls hl => ?_)
      refine lv_iconst (v := (0)) hx hb (kn_dec tX9_worth 18 rfl) (by decide) ?_
      refine lv_istore_n (lv' := [(3, .int _), (2, .int _), (0, .ref (ad_m 0)), (1, .int _)]) hx hb (kn_dec tX9_worth 19 rfl) rfl hl (by decide) rfl (fun ls hl => ?_)
      obtain ⟨n11, h⟩ := h
      exact wX9_worth_L34 X n11 _ _ _ _ _ _  I (lv_sub hl [2, 1, 0] rfl) h
    · have h := h.2 c6
      refine lv_iconst (v := (-1)) hx hb (kn_dec tX9_worth 9 rfl) (by decide) ?_
      exact kw_iret hx hb hr hlocks I _ rfl h (kn_dec tX9_worth 10 rfl)

/-! X9_wanders -/
abbrev rmX9_wanders : Room := { frames := 8, cells := 0, slots := 0, locals := 185 }
def PX9_wanders_b59  (K29 : Int32 → Int32 → Int32 → OV → Prop) (post : Int32 → OV → Prop) (t0 : Int32) (t1 : Int32) (y1 : Int32) (y3 : Int32) (v_m : OV) : Prop := (∀ x1 : Int32, x1 = (t0 ||| t1) → (PX9_goes v_m (fun r3 v_m2 => (∀ x5 : Int32, x5 = y3 + (1 : Int32) → K29 y1 x1 x5 v_m2))))
set_option maxRecDepth 100000 in
set_option maxHeartbeats 1000000 in
theorem wX9_wanders_b59  {K29 : Int32 → Int32 → Int32 → OV → Prop} {post : Int32 → OV → Prop} {ad_m : Nat → Nat} (X : kn_X p s m args meth c cX9_wanders 4 (some .int) RX9 kn_all D tc Z (kn_A w0 s.heap.size))   (hK29 : ∀ (H : Heap) (locs : List Loc) (ls : Array Slot) (y1 : Int32) (y2 : Int32) (y3 : Int32) (v_m : OV), kn_I D tc (kn_A w0 s.heap.size) s.heap [(kModel, ad_m, v_m)] H locs → lv_has ls 4 [(0, .ref (ad_m 0)), (1, .int y1), (2, .int y2), (3, .int y3)] → K29 y1 y2 y3 v_m → W p l e rmX9_wanders s m args below meth c H locs 0 0 (kn_Qi D tc w0 (fun (u : OV) => [(kModel, ad_m, u)]) (fun (r : Int32) (u : OV) => post r u) below args s 0 0) (F0 m 29 ls [])) : ∀ (H : Heap) (locs : List Loc) (ls : Array Slot) (t0 : Int32) (t1 : Int32) (y1 : Int32) (y3 : Int32) (v_m : OV), kn_I D tc (kn_A w0 s.heap.size) s.heap [(kModel, ad_m, v_m)] H locs → lv_has ls 4 [(0, .ref (ad_m 0)), (1, .int y1), (3, .int y3)] → PX9_wanders_b59 K29 post t0 t1 y1 y3 v_m → W p l e rmX9_wanders s m args below meth c H locs 0 0 (kn_Qi D tc w0 (fun (u : OV) => [(kModel, ad_m, u)]) (fun (r : Int32) (u : OV) => post r u) below args s 0 0) (F0 m 59 ls [.int t1, .int t0]) := by
  obtain ⟨S0, hr, hlocks, hK, hZ, hA⟩ := id X
  obtain ⟨hx, hb, hml, hown, hts⟩ := id S0
  intro H locs ls t0 t1 y1 y3 v_m I hl h
  unfold PX9_wanders_b59 at h
  refine lv_ior hx hb (kn_dec tX9_wanders 35 rfl) ?_
  refine lv_topi (fun x1 ex1 => ?_)
  have h := h x1 ex1
  refine lv_istore_n (lv' := [(2, .int _), (0, .ref (ad_m 0)), (1, .int _), (3, .int _)]) hx hb (kn_dec tX9_wanders 36 rfl) rfl hl (by decide) rfl (fun ls hl => ?_)
  refine lv_aload_n hx hb (kn_dec tX9_wanders 37 rfl) rfl (lv_at hl 1 rfl) ?_
  refine kw_calli (wc := [(kModel, ad_m, _)]) (wr := []) I hA [0] [] rfl rfl (by decide) (by decide) (kn_runV (As := []) S0 hK hZ hA I ((ctX9_goes h).met _) (kn_cwV 0 hts q6_155 q6_157 q0_66 q1_10 q6_158 rfl rfl (by decide +kernel) ⟨(Nat.le_of_ble_eq_true rfl), (Nat.le_of_ble_eq_true rfl)⟩) [0] rfl (by decide) 0 rfl rfl rfl rfl hl.1 rfl (Nat.le_of_ble_eq_true rfl) (kn_dec tX9_wanders 38 rfl) ⟨(Nat.le_of_ble_eq_true rfl), (Nat.le_of_ble_eq_true rfl)⟩) (fun r3 u4 H locs h I => ?_)
  have I : kn_I D tc (kn_A w0 s.heap.size) s.heap [(kModel, ad_m, _)] _ _ := I
  refine lv_pop hx hb (kn_dec tX9_wanders 39 rfl) rfl ?_
  refine kw_iinc (lvf := fun y => [(3, .int y), (2, .int _), (0, .ref (ad_m 0)), (1, .int _)]) (nv := (1)) hx hb (kn_dec tX9_wanders 40 rfl) hl (k := 3) rfl (by decide) (by decide) (fun _ => rfl) (fun x5 ex5 ls hl => ?_)
  have h := h x5 ex5
  refine lv_goto (tgt := 29) hx hb (kn_dec tX9_wanders 41 rfl) (by decide) ?_
  exact hK29 _ _ _ _ _ _ _  I (lv_sub hl [2, 3, 1, 0] rfl) h
def PX9_wanders_L29   (post : Int32 → OV → Prop) : Nat → Int32 → Int32 → Int32 → OV → Prop
  | 0, _, _, _, _ => False
  | n + 1, y1, y2, y3, v_m => ((y1 < y3 → (PX9_laysBack v_m (fun v_m2 => (PX9_bits y2 (fun r4 => post r4 v_m2))))) ∧ (¬ y1 < y3 → ((¬ (v_m.2.1 1 ((7 : Int32)).toNatClampNeg) = ((-1 : Int32)) → PX9_wanders_b59 (PX9_wanders_L29 post n) post y2 (((1 : Int32)) <<< ((v_m.2.1 1 ((7 : Int32)).toNatClampNeg) &&& 31)) y1 y3 v_m) ∧ ((v_m.2.1 1 ((7 : Int32)).toNatClampNeg) = ((-1 : Int32)) → PX9_wanders_b59 (PX9_wanders_L29 post n) post y2 ((0 : Int32)) y1 y3 v_m))))
set_option maxRecDepth 100000 in
set_option maxHeartbeats 1000000 in
theorem wX9_wanders_L29   {post : Int32 → OV → Prop} {ad_m : Nat → Nat} (X : kn_X p s m args meth c cX9_wanders 4 (some .int) RX9 kn_all D tc Z (kn_A w0 s.heap.size))    : ∀ n : Nat, ∀ (H : Heap) (locs : List Loc) (ls : Array Slot) (y1 : Int32) (y2 : Int32) (y3 : Int32) (v_m : OV), kn_I D tc (kn_A w0 s.heap.size) s.heap [(kModel, ad_m, v_m)] H locs → lv_has ls 4 [(0, .ref (ad_m 0)), (1, .int y1), (2, .int y2), (3, .int y3)] → PX9_wanders_L29 post n y1 y2 y3 v_m → W p l e rmX9_wanders s m args below meth c H locs 0 0 (kn_Qi D tc w0 (fun (u : OV) => [(kModel, ad_m, u)]) (fun (r : Int32) (u : OV) => post r u) below args s 0 0) (F0 m 29 ls []) := by
  obtain ⟨S0, hr, hlocks, hK, hZ, hA⟩ := id X
  obtain ⟨hx, hb, hml, hown, hts⟩ := id S0
  intro n
  induction n with
  | zero =>
    intro H locs ls y1 y2 y3 v_m I hl h
    unfold PX9_wanders_L29 at h
    exact h.elim
  | succ n ih =>
    intro H locs ls y1 y2 y3 v_m I hl h
    unfold PX9_wanders_L29 at h
    refine lv_iload_n hx hb (kn_dec tX9_wanders 17 rfl) rfl (lv_at hl 3 rfl) ?_
    refine lv_iload_n hx hb (kn_dec tX9_wanders 18 rfl) rfl (lv_at hl 1 rfl) ?_
    refine lv_icmp_gt (tgt := 72) hx hb (kn_dec tX9_wanders 19 rfl) (by decide) (fun c1 => ?_) (fun c1 => ?_)
    · have h := h.1 c1
      refine lv_aload_n hx hb (kn_dec tX9_wanders 42 rfl) rfl (lv_at hl 0 rfl) ?_
      refine kw_callv (wc := [(kModel, ad_m, _)]) (wr := []) I hA [0] [] rfl rfl (by decide) (by decide) (kn_runV (As := []) S0 hK hZ hA I ((ctX9_laysBack h).met _) (kn_cwV 0 hts q7_13 q7_15 q0_82 q1_10 q7_16 rfl rfl (by decide +kernel) ⟨(Nat.le_of_ble_eq_true rfl), (Nat.le_of_ble_eq_true rfl)⟩) [0] rfl (by decide) 0 rfl rfl rfl rfl hl.1 rfl (Nat.le_of_ble_eq_true rfl) (kn_dec tX9_wanders 43 rfl) ⟨(Nat.le_of_ble_eq_true rfl), (Nat.le_of_ble_eq_true rfl)⟩) (fun u3 H locs h I => ?_)
      have I : kn_I D tc (kn_A w0 s.heap.size) s.heap [(kModel, ad_m, _)] _ _ := I
      refine lv_iload_n hx hb (kn_dec tX9_wanders 44 rfl) rfl (lv_at hl 2 rfl) ?_
      refine kw_calli (wc := []) (wr := [(kModel, ad_m, _)]) I hA [] [0] rfl rfl (by decide) (by decide) (kn_runS (As := [.int _]) S0 hK hZ hA I ((ctX9_bits h).met _) (kn_cwS 1 hts q6_182 q6_183 q1_10 q6_184 rfl rfl (by decide +kernel) ⟨(Nat.le_of_ble_eq_true rfl), (Nat.le_of_ble_eq_true rfl)⟩) [] rfl (by decide) rfl hl.1 rfl (Nat.le_of_ble_eq_true rfl) (kn_dec tX9_wanders 45 rfl) ⟨(Nat.le_of_ble_eq_true rfl), (Nat.le_of_ble_eq_true rfl)⟩) (fun r4 u5 H locs h I => ?_)
      have I : kn_I D tc (kn_A w0 s.heap.size) s.heap [(kModel, ad_m, _)] _ _ := I
      exact kw_iret hx hb hr hlocks I _ rfl h (kn_dec tX9_wanders 46 rfl)
    · have h := h.2 c1
      refine lv_iload_n hx hb (kn_dec tX9_wanders 20 rfl) rfl (lv_at hl 2 rfl) ?_
      refine lv_aload_n hx hb (kn_dec tX9_wanders 21 rfl) rfl (lv_at hl 0 rfl) ?_
      refine kw_getl hx hb hts inX9 hown hK I 0 rfl rfl 1 (by decide) rfl (hts _ q4_201) (kn_dec tX9_wanders 22 rfl) rfl ?_
      refine lv_bipush (v := (7)) hx hb (kn_dec tX9_wanders 23 rfl) (by decide) ?_
      refine kw_iald hx hb hK I 0 rfl 1 12 (List.mem_of_getElem? (i := 0) rfl) (by unfold vp_in; decide) (kn_dec tX9_wanders 24 rfl) ?_
      refine lv_iconst (v := (-1)) hx hb (kn_dec tX9_wanders 25 rfl) (by decide) ?_
      refine lv_icmp_ne (tgt := 50) hx hb (kn_dec tX9_wanders 26 rfl) (by decide) (fun c6 => ?_) (fun c6 => ?_)
      · have h := h.1 c6
        refine lv_iconst (v := (1)) hx hb (kn_dec tX9_wanders 29 rfl) (by decide) ?_
        refine lv_aload_n hx hb (kn_dec tX9_wanders 30 rfl) rfl (lv_at hl 0 rfl) ?_
        refine kw_getl hx hb hts inX9 hown hK I 0 rfl rfl 1 (by decide) rfl (hts _ q4_201) (kn_dec tX9_wanders 31 rfl) rfl ?_
        refine lv_bipush (v := (7)) hx hb (kn_dec tX9_wanders 32 rfl) (by decide) ?_
        refine kw_iald hx hb hK I 0 rfl 1 12 (List.mem_of_getElem? (i := 0) rfl) (by unfold vp_in; decide) (kn_dec tX9_wanders 33 rfl) ?_
        refine lv_ishl hx hb (kn_dec tX9_wanders 34 rfl) ?_
        exact wX9_wanders_b59 X ih _ _ _ _ _ _ _ _  I (lv_sub hl [0, 1, 3] rfl) h
      · have h := h.2 c6
        refine lv_iconst (v := (0)) hx hb (kn_dec tX9_wanders 27 rfl) (by decide) ?_
        refine lv_goto (tgt := 59) hx hb (kn_dec tX9_wanders 28 rfl) (by decide) ?_
        exact wX9_wanders_b59 X ih _ _ _ _ _ _ _ _  I (lv_sub hl [0, 1, 3] rfl) h
def PX9_wanders  (v_m : OV) (a1 : Int32) (post : Int32 → OV → Prop) : Prop := (PX9_isHill v_m (fun r1 => ((r1 = ((0 : Int32)) → post ((-1 : Int32)) v_m) ∧ (¬ r1 = ((0 : Int32)) → (PX9_in a1.toInt64 ((1 : Int64)) ((100 : Int64)) (fun r4 => ((¬ r4 = ((0 : Int32)) → (PX9_keepsAll v_m (fun v_m7 => (∃ n9 : Nat, PX9_wanders_L29 post n9 a1 ((0 : Int32)) ((0 : Int32)) v_m7)))) ∧ (r4 = ((0 : Int32)) → post ((-1 : Int32)) v_m))))))))
set_option maxRecDepth 100000 in
set_option maxHeartbeats 1000000 in
theorem ctX9_wanders {l : Launch} {D : va_G} {tc : Nat → ClassId} {Z : (Nat → Nat) × (Nat → Nat)}  {ad_m : Nat → Nat} {v_m : OV} {a1 : Int32}    {post : Int32 → OV → Prop} (h : PX9_wanders  v_m a1 post) : CTi l D tc Z yX9_wanders (Cond.code yX9_wanders cX9_wanders 4 (some .int) :: kn_all) rmX9_wanders 0 0 [.ref (ad_m 0), .int a1] [(kModel, ad_m, v_m)] (fun (u : OV) => [(kModel, ad_m, u)]) (fun (r : Int32) (u : OV) => post r u) := by
  refine kn_ofi (cc := cX9_wanders) (nL := 4) (ret := (some .int)) (lv := [(0, .ref (ad_m 0)), (1, .int a1)]) (by decide) (Nat.le_of_ble_eq_true rfl) rfl (fun p e s m below meth c ls X I hl _ => ?_)
  obtain ⟨S0, hr, hlocks, hK, hZ, hA⟩ := id X
  obtain ⟨hx, hb, hml, hown, hts⟩ := id S0
  unfold PX9_wanders at h
  refine lv_aload_n hx hb (kn_dec tX9_wanders 0 rfl) rfl (lv_at hl 0 rfl) ?_
  refine kw_calli (wc := [(kModel, ad_m, _)]) (wr := []) I hA [0] [] rfl rfl (by decide) (by decide) (kn_runV (As := []) S0 hK hZ hA I ((ctX9_isHill h).met _) (kn_cwV 0 hts q6_147 q6_149 q0_64 q1_10 q6_150 rfl rfl (by decide +kernel) ⟨(Nat.le_of_ble_eq_true rfl), (Nat.le_of_ble_eq_true rfl)⟩) [0] rfl (by decide) 0 rfl rfl rfl rfl hl.1 rfl (Nat.le_of_ble_eq_true rfl) (kn_dec tX9_wanders 1 rfl) ⟨(Nat.le_of_ble_eq_true rfl), (Nat.le_of_ble_eq_true rfl)⟩) (fun r1 u2 H locs h I => ?_)
  obtain ⟨hz_r1, h⟩ := h
  have I : kn_I D tc (kn_A _ s.heap.size) s.heap [(kModel, ad_m, _)] _ _ := I
  refine lv_if_eq (tgt := 19) hx hb (kn_dec tX9_wanders 2 rfl) (by decide) (fun c3 => ?_) (fun c3 => ?_)
  · have h := h.1 c3
    refine lv_iconst (v := (-1)) hx hb (kn_dec tX9_wanders 9 rfl) (by decide) ?_
    exact kw_iret hx hb hr hlocks I _ rfl h (kn_dec tX9_wanders 10 rfl)
  · have h := h.2 c3
    refine lv_iload_n hx hb (kn_dec tX9_wanders 3 rfl) rfl (lv_at hl 1 rfl) ?_
    refine lv_i2l hx hb (kn_dec tX9_wanders 4 rfl) rfl ?_
    refine lv_lconst (v := 1) hx hb (kn_dec tX9_wanders 5 rfl) (by decide) ?_
    refine lv_ldc2 (v := (100)) hx hb hown (hts _ q6_236) (kn_dec tX9_wanders 6 rfl) ?_
    refine kw_calli (wc := []) (wr := [(kModel, ad_m, _)]) I hA [] [0] rfl rfl (by decide) (by decide) (kn_runS (As := [.long _, .long _, .long _]) S0 hK hZ hA I ((ctX9_in h).met _) (kn_cwS 3 hts q6_1 q6_2 q1_10 q6_3 rfl rfl (by decide +kernel) ⟨(Nat.le_of_ble_eq_true rfl), (Nat.le_of_ble_eq_true rfl)⟩) [] rfl (by decide) rfl hl.1 rfl (Nat.le_of_ble_eq_true rfl) (kn_dec tX9_wanders 7 rfl) ⟨(Nat.le_of_ble_eq_true rfl), (Nat.le_of_ble_eq_true rfl)⟩) (fun r4 u5 H locs h I => ?_)
    obtain ⟨hz_r4, h⟩ := h
    have I : kn_I D tc (kn_A _ s.heap.size) s.heap [(kModel, ad_m, _)] _ _ := I
    refine lv_if_ne (tgt := 21) hx hb (kn_dec tX9_wanders 8 rfl) (by decide) (fun c6 => ?_) (fun c6 => ?_)
    · have h := h.1 c6
      refine lv_iconst (v := (0)) hx hb (kn_dec tX9_wanders 11 rfl) (by decide) ?_
      refine lv_istore_n (lv' := [(2, .int _), (0, .ref (ad_m 0)), (1, .int _)]) hx hb (kn_dec tX9_wanders 12 rfl) rfl hl (by decide) rfl (fun ls hl => ?_)
      refine lv_aload_n hx hb (kn_dec tX9_wanders 13 rfl) rfl (lv_at hl 1 rfl) ?_
      refine kw_callv (wc := [(kModel, ad_m, _)]) (wr := []) I hA [0] [] rfl rfl (by decide) (by decide) (kn_runV (As := []) S0 hK hZ hA I ((ctX9_keepsAll h).met _) (kn_cwV 0 hts q6_237 q6_239 q0_78 q1_10 q7_0 rfl rfl (by decide +kernel) ⟨(Nat.le_of_ble_eq_true rfl), (Nat.le_of_ble_eq_true rfl)⟩) [0] rfl (by decide) 0 rfl rfl rfl rfl hl.1 rfl (Nat.le_of_ble_eq_true rfl) (kn_dec tX9_wanders 14 rfl) ⟨(Nat.le_of_ble_eq_true rfl), (Nat.le_of_ble_eq_true rfl)⟩) (fun u8 H locs h I => ?_)
      have I : kn_I D tc (kn_A _ s.heap.size) s.heap [(kModel, ad_m, _)] _ _ := I
      refine lv_iconst (v := (0)) hx hb (kn_dec tX9_wanders 15 rfl) (by decide) ?_
      refine lv_istore_n (lv' := [(3, .int _), (2, .int _), (0, .ref (ad_m 0)), (1, .int _)]) hx hb (kn_dec tX9_wanders 16 rfl) rfl hl (by decide) rfl (fun ls hl => ?_)
      obtain ⟨n9, h⟩ := h
      exact wX9_wanders_L29 X n9 _ _ _ _ _ _ _  I (lv_sub hl [2, 3, 1, 0] rfl) h
    · have h := h.2 c6
      refine lv_iconst (v := (-1)) hx hb (kn_dec tX9_wanders 9 rfl) (by decide) ?_
      exact kw_iret hx hb hr hlocks I _ rfl h (kn_dec tX9_wanders 10 rfl)

end
