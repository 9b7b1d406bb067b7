section
variable {p : Program} {l : Launch} {e : Env} {s : State} {m : MethodId} {args : Array Value} {below : List Frame} {meth : Method} {c : Code} {D : va_G} {tc : Nat → ClassId} {Z : (Nat → Nat) × (Nat → Nat)} {w0 : List CH}

/-! X3_run -/
abbrev rmX3_run : Room := { frames := 1, cells := 0, slots := 0, locals := 24 }
def PX3_run_b104 (v_w : OV) (K6 : Int32 → Int32 → Int32 → OV → Prop) (post : Int64 → OV → Prop) (y2 : Int32) (y4 : Int32) (y5 : Int32) (y6 : Int32) (v_u : OV) : Prop := ((y4 < ((2 : Int32)) → (∀ x2 : Int32, x2 = y5 + (1 : Int32) → K6 y2 y4 x2 v_u)) ∧ (¬ y4 < ((2 : Int32)) → (∀ x3 : Int32, x3 = y4 + (-1 : Int32) → (vp_in (x3 - ((1 : Int32))) 64 ∧ (vp_in x3 64 ∧ (PX3_joined y6 (v_u.2.2 5 (x3 - ((1 : Int32))).toNatClampNeg) (v_u.2.2 5 x3.toNatClampNeg) (fun r6 => (vp_in (x3 - ((1 : Int32))) 64 ∧ (∀ v_u9 : OV, v_u9 = sl v_u 5 (vp_updL (v_u.2.2 5) (x3 - ((1 : Int32))).toNatClampNeg r6) → (∀ x10 : Int32, x10 = y5 + (1 : Int32) → K6 y2 x3 x10 v_u9))))))))))
set_option maxRecDepth 100000 in
set_option maxHeartbeats 1000000 in
theorem wX3_run_b104 {v_w : OV} {K6 : Int32 → Int32 → Int32 → OV → Prop} {post : Int64 → OV → Prop} {ad_u : Nat → Nat} {ad_w : Nat → Nat} (X : kn_X p s m args meth c cX3_run 7 (some .long) RX3 kn_all D tc Z (kn_A w0 s.heap.size))   (hK6 : ∀ (H : Heap) (locs : List Loc) (ls : Array Slot) (y2 : Int32) (y4 : Int32) (y5 : Int32) (v_u : OV), kn_I D tc (kn_A w0 s.heap.size) s.heap [(kRule, ad_u, v_u), (kWalk, ad_w, v_w)] H locs → lv_has ls 7 [(0, .ref (ad_u 0)), (2, .int y2), (3, .ref (ad_w (0 + 1))), (4, .int y4), (5, .int y5)] → K6 y2 y4 y5 v_u → W p l e rmX3_run s m args below meth c H locs 0 0 (kn_Ql D tc w0 (fun (u : OV) => [(kRule, ad_u, u), (kWalk, ad_w, v_w)]) (fun (r : Int64) (u : OV) => post r u) below args s 0 0) (F0 m 6 ls [])) : ∀ (H : Heap) (locs : List Loc) (ls : Array Slot) (y2 : Int32) (y4 : Int32) (y5 : Int32) (y6 : Int32) (v_u : OV), kn_I D tc (kn_A w0 s.heap.size) s.heap [(kRule, ad_u, v_u), (kWalk, ad_w, v_w)] H locs → lv_has ls 7 [(0, .ref (ad_u 0)), (2, .int y2), (3, .ref (ad_w (0 + 1))), (4, .int y4), (5, .int y5), (6, .int y6)] → PX3_run_b104 v_w K6 post y2 y4 y5 y6 v_u → W p l e rmX3_run s m args below meth c H locs 0 0 (kn_Ql D tc w0 (fun (u : OV) => [(kRule, ad_u, u), (kWalk, ad_w, v_w)]) (fun (r : Int64) (u : OV) => post r u) below args s 0 0) (F0 m 104 ls []) := by
  obtain ⟨S0, hr, hlocks, hK, hZ, hA⟩ := id X
  obtain ⟨hx, hb, hml, hown, hts⟩ := id S0
  intro H locs ls y2 y4 y5 y6 v_u I hl h
  unfold PX3_run_b104 at h
  refine lv_iload hx hb (kn_dec tX3_run 57 rfl) (lv_at hl 3 rfl) ?_
  refine lv_iconst (v := (2)) hx hb (kn_dec tX3_run 58 rfl) (by decide) ?_
  refine lv_icmp_lt (tgt := 143) hx hb (kn_dec tX3_run 59 rfl) (by decide) (fun c1 => ?_) (fun c1 => ?_)
  · have h := h.1 c1
    refine kw_iinc (lvf := fun y => [(5, .int y), (0, .ref (ad_u 0)), (2, .int _), (3, .ref (ad_w (0 + 1))), (4, .int _), (6, .int _)]) (nv := (1)) hx hb (kn_dec tX3_run 79 rfl) hl (k := 4) rfl (by decide) (by decide) (fun _ => rfl) (fun x2 ex2 ls hl => ?_)
    have h := h x2 ex2
    refine lv_goto (tgt := 6) hx hb (kn_dec tX3_run 80 rfl) (by decide) ?_
    exact hK6 _ _ _ _ _ _ _  I (lv_sub hl [1, 2, 3, 4, 0] rfl) h
  · have h := h.2 c1
    refine kw_iinc (lvf := fun y => [(4, .int y), (0, .ref (ad_u 0)), (2, .int _), (3, .ref (ad_w (0 + 1))), (5, .int _), (6, .int _)]) (nv := (-1)) hx hb (kn_dec tX3_run 60 rfl) hl (k := 3) rfl (by decide) (by decide) (fun _ => rfl) (fun x3 ex3 ls hl => ?_)
    have h := h x3 ex3
    refine lv_aload_n hx hb (kn_dec tX3_run 61 rfl) rfl (lv_at hl 1 rfl) ?_
    refine kw_getl hx hb hts inX3 hown hK I 0 rfl rfl 5 (by decide) rfl (hts _ q1_79) (kn_dec tX3_run 62 rfl) rfl ?_
    refine lv_iload hx hb (kn_dec tX3_run 63 rfl) (lv_at hl 0 rfl) ?_
    refine lv_iconst (v := (1)) hx hb (kn_dec tX3_run 64 rfl) (by decide) ?_
    refine lv_isub hx hb (kn_dec tX3_run 65 rfl) ?_
    refine lv_iload hx hb (kn_dec tX3_run 66 rfl) (lv_at hl 5 rfl) ?_
    refine lv_aload_n hx hb (kn_dec tX3_run 67 rfl) rfl (lv_at hl 1 rfl) ?_
    refine kw_getl hx hb hts inX3 hown hK I 0 rfl rfl 5 (by decide) rfl (hts _ q1_79) (kn_dec tX3_run 68 rfl) rfl ?_
    refine lv_iload hx hb (kn_dec tX3_run 69 rfl) (lv_at hl 0 rfl) ?_
    refine lv_iconst (v := (1)) hx hb (kn_dec tX3_run 70 rfl) (by decide) ?_
    refine lv_isub hx hb (kn_dec tX3_run 71 rfl) ?_
    obtain ⟨hs4, h⟩ := h
    refine kw_lald hx hb hK I 0 rfl 5 64 (List.mem_of_getElem? (i := 3) rfl) hs4 (kn_dec tX3_run 72 rfl) ?_
    refine lv_aload_n hx hb (kn_dec tX3_run 73 rfl) rfl (lv_at hl 1 rfl) ?_
    refine kw_getl hx hb hts inX3 hown hK I 0 rfl rfl 5 (by decide) rfl (hts _ q1_79) (kn_dec tX3_run 74 rfl) rfl ?_
    refine lv_iload hx hb (kn_dec tX3_run 75 rfl) (lv_at hl 0 rfl) ?_
    obtain ⟨hs5, h⟩ := h
    refine kw_lald hx hb hK I 0 rfl 5 64 (List.mem_of_getElem? (i := 3) rfl) hs5 (kn_dec tX3_run 76 rfl) ?_
    refine kw_calll (wc := []) (wr := [(kRule, ad_u, _), (kWalk, ad_w, _)]) I hA [] [0, 1] rfl rfl (by decide) (by decide) (kn_runS (As := [.int _, .long _, .long _]) S0 hK hZ hA I ((ctX3_joined h).met _) (kn_cwS 3 hts q3_231 q3_232 q1_5 q3_233 rfl rfl (by decide +kernel) ⟨(Nat.le_of_ble_eq_true rfl), (Nat.le_of_ble_eq_true rfl)⟩) [] rfl (by decide) rfl hl.1 rfl (Nat.le_of_ble_eq_true rfl) (kn_dec tX3_run 77 rfl) ⟨(Nat.le_of_ble_eq_true rfl), (Nat.le_of_ble_eq_true rfl)⟩) (fun r6 u7 H locs h I => ?_)
    have I : kn_I D tc (kn_A w0 s.heap.size) s.heap [(kRule, ad_u, _), (kWalk, ad_w, _)] _ _ := I
    obtain ⟨hs8, h⟩ := h
    refine kw_last hx hb hK I 0 rfl 5 64 (List.mem_of_getElem? (i := 3) rfl) ukRule_5 hs8 (kn_dec tX3_run 78 rfl) (fun v_u9 ev_u9 H locs I => ?_)
    have h := h v_u9 ev_u9
    have I : kn_I D tc (kn_A w0 s.heap.size) s.heap [(kRule, ad_u, _), (kWalk, ad_w, _)] _ _ := I
    refine kw_iinc (lvf := fun y => [(5, .int y), (4, .int _), (0, .ref (ad_u 0)), (2, .int _), (3, .ref (ad_w (0 + 1))), (6, .int _)]) (nv := (1)) hx hb (kn_dec tX3_run 79 rfl) hl (k := 4) rfl (by decide) (by decide) (fun _ => rfl) (fun x10 ex10 ls hl => ?_)
    have h := h x10 ex10
    refine lv_goto (tgt := 6) hx hb (kn_dec tX3_run 80 rfl) (by decide) ?_
    exact hK6 _ _ _ _ _ _ _  I (lv_sub hl [2, 3, 4, 1, 0] rfl) h
def PX3_run_b68 (v_w : OV) (K6 : Int32 → Int32 → Int32 → OV → Prop) (post : Int64 → OV → Prop) (y2 : Int32) (y4 : Int32) (y5 : Int32) (y6 : Int32) (v_u : OV) : Prop := ((¬ y6 = ((-27 : Int32)) → PX3_run_b104 v_w K6 post y2 y4 y5 y6 v_u) ∧ (y6 = ((-27 : Int32)) → ((y4 < ((1 : Int32)) → PX3_run_b104 v_w K6 post y2 y4 y5 y6 v_u) ∧ (¬ y4 < ((1 : Int32)) → (vp_in (y4 - ((1 : Int32))) 64 ∧ (∀ x4 : Int64, x4 = (((1 : Int64)) - (v_u.2.2 5 (y4 - ((1 : Int32))).toNatClampNeg)) → (vp_in (y4 - ((1 : Int32))) 64 ∧ (∀ v_u6 : OV, v_u6 = sl v_u 5 (vp_updL (v_u.2.2 5) (y4 - ((1 : Int32))).toNatClampNeg x4) → (∀ x7 : Int32, x7 = y5 + (1 : Int32) → K6 y2 y4 x7 v_u6)))))))))
set_option maxRecDepth 100000 in
set_option maxHeartbeats 1000000 in
theorem wX3_run_b68 {v_w : OV} {K6 : Int32 → Int32 → Int32 → OV → Prop} {post : Int64 → OV → Prop} {ad_u : Nat → Nat} {ad_w : Nat → Nat} (X : kn_X p s m args meth c cX3_run 7 (some .long) RX3 kn_all D tc Z (kn_A w0 s.heap.size))   (hK6 : ∀ (H : Heap) (locs : List Loc) (ls : Array Slot) (y2 : Int32) (y4 : Int32) (y5 : Int32) (v_u : OV), kn_I D tc (kn_A w0 s.heap.size) s.heap [(kRule, ad_u, v_u), (kWalk, ad_w, v_w)] H locs → lv_has ls 7 [(0, .ref (ad_u 0)), (2, .int y2), (3, .ref (ad_w (0 + 1))), (4, .int y4), (5, .int y5)] → K6 y2 y4 y5 v_u → W p l e rmX3_run s m args below meth c H locs 0 0 (kn_Ql D tc w0 (fun (u : OV) => [(kRule, ad_u, u), (kWalk, ad_w, v_w)]) (fun (r : Int64) (u : OV) => post r u) below args s 0 0) (F0 m 6 ls [])) : ∀ (H : Heap) (locs : List Loc) (ls : Array Slot) (y2 : Int32) (y4 : Int32) (y5 : Int32) (y6 : Int32) (v_u : OV), kn_I D tc (kn_A w0 s.heap.size) s.heap [(kRule, ad_u, v_u), (kWalk, ad_w, v_w)] H locs → lv_has ls 7 [(0, .ref (ad_u 0)), (2, .int y2), (3, .ref (ad_w (0 + 1))), (4, .int y4), (5, .int y5), (6, .int y6)] → PX3_run_b68 v_w K6 post y2 y4 y5 y6 v_u → W p l e rmX3_run s m args below meth c H locs 0 0 (kn_Ql D tc w0 (fun (u : OV) => [(kRule, ad_u, u), (kWalk, ad_w, v_w)]) (fun (r : Int64) (u : OV) => post r u) below args s 0 0) (F0 m 68 ls []) := by
  obtain ⟨S0, hr, hlocks, hK, hZ, hA⟩ := id X
  obtain ⟨hx, hb, hml, hown, hts⟩ := id S0
  intro H locs ls y2 y4 y5 y6 v_u I hl h
  unfold PX3_run_b68 at h
  refine lv_iload hx hb (kn_dec tX3_run 36 rfl) (lv_at hl 5 rfl) ?_
  refine lv_bipush (v := (-27)) hx hb (kn_dec tX3_run 37 rfl) (by decide) ?_
  refine lv_icmp_ne (tgt := 104) hx hb (kn_dec tX3_run 38 rfl) (by decide) (fun c1 => ?_) (fun c1 => ?_)
  · have h := h.1 c1
    exact wX3_run_b104 X hK6 _ _ _ _ _ _ _ _  I (lv_sub hl [0, 1, 2, 3, 4, 5] rfl) h
  · have h := h.2 c1
    refine lv_iload hx hb (kn_dec tX3_run 39 rfl) (lv_at hl 3 rfl) ?_
    refine lv_iconst (v := (1)) hx hb (kn_dec tX3_run 40 rfl) (by decide) ?_
    refine lv_icmp_lt (tgt := 104) hx hb (kn_dec tX3_run 41 rfl) (by decide) (fun c2 => ?_) (fun c2 => ?_)
    · have h := h.1 c2
      exact wX3_run_b104 X hK6 _ _ _ _ _ _ _ _  I (lv_sub hl [0, 1, 2, 3, 4, 5] rfl) h
    · have h := h.2 c2
      refine lv_aload_n hx hb (kn_dec tX3_run 42 rfl) rfl (lv_at hl 0 rfl) ?_
      refine kw_getl hx hb hts inX3 hown hK I 0 rfl rfl 5 (by decide) rfl (hts _ q1_79) (kn_dec tX3_run 43 rfl) rfl ?_
      refine lv_iload hx hb (kn_dec tX3_run 44 rfl) (lv_at hl 3 rfl) ?_
      refine lv_iconst (v := (1)) hx hb (kn_dec tX3_run 45 rfl) (by decide) ?_
      refine lv_isub hx hb (kn_dec tX3_run 46 rfl) ?_
      refine lv_lconst (v := 1) hx hb (kn_dec tX3_run 47 rfl) (by decide) ?_
      refine lv_aload_n hx hb (kn_dec tX3_run 48 rfl) rfl (lv_at hl 0 rfl) ?_
      refine kw_getl hx hb hts inX3 hown hK I 0 rfl rfl 5 (by decide) rfl (hts _ q1_79) (kn_dec tX3_run 49 rfl) rfl ?_
      refine lv_iload hx hb (kn_dec tX3_run 50 rfl) (lv_at hl 3 rfl) ?_
      refine lv_iconst (v := (1)) hx hb (kn_dec tX3_run 51 rfl) (by decide) ?_
      refine lv_isub hx hb (kn_dec tX3_run 52 rfl) ?_
      obtain ⟨hs3, h⟩ := h
      refine kw_lald hx hb hK I 0 rfl 5 64 (List.mem_of_getElem? (i := 3) rfl) hs3 (kn_dec tX3_run 53 rfl) ?_
      refine lv_lsub hx hb (kn_dec tX3_run 54 rfl) ?_
      refine lv_topl (fun x4 ex4 => ?_)
      have h := h x4 ex4
      obtain ⟨hs5, h⟩ := h
      refine kw_last hx hb hK I 0 rfl 5 64 (List.mem_of_getElem? (i := 3) rfl) ukRule_5 hs5 (kn_dec tX3_run 55 rfl) (fun v_u6 ev_u6 H locs I => ?_)
      have h := h v_u6 ev_u6
      have I : kn_I D tc (kn_A w0 s.heap.size) s.heap [(kRule, ad_u, _), (kWalk, ad_w, _)] _ _ := I
      refine lv_goto (tgt := 143) hx hb (kn_dec tX3_run 56 rfl) (by decide) ?_
      refine kw_iinc (lvf := fun y => [(5, .int y), (0, .ref (ad_u 0)), (2, .int _), (3, .ref (ad_w (0 + 1))), (4, .int _), (6, .int _)]) (nv := (1)) hx hb (kn_dec tX3_run 79 rfl) hl (k := 4) rfl (by decide) (by decide) (fun _ => rfl) (fun x7 ex7 ls hl => ?_)
      have h := h x7 ex7
      refine lv_goto (tgt := 6) hx hb (kn_dec tX3_run 80 rfl) (by decide) ?_
      exact hK6 _ _ _ _ _ _ _  I (lv_sub hl [1, 2, 3, 4, 0] rfl) h
def PX3_run_L6 (v_w : OV)  (post : Int64 → OV → Prop) : Nat → Int32 → Int32 → Int32 → OV → Prop
  | 0, _, _, _, _ => False
  | n + 1, y2, y4, y5, v_u => ((y2 ≤ y5 → post (v_u.2.2 5 ((0 : Int32)).toNatClampNeg) v_u) ∧ (¬ y2 ≤ y5 → (vp_in y5 400 ∧ (∀ x3 : Int32, x3 = (v_u.2.1 0 y5.toNatClampNeg) → ((x3 ≤ ((-15 : Int32)) → PX3_run_b68 v_w (PX3_run_L6 v_w post n) post y2 y4 y5 x3 v_u) ∧ (¬ x3 ≤ ((-15 : Int32)) → ((((64 : Int32)) ≤ y4 → PX3_run_b68 v_w (PX3_run_L6 v_w post n) post y2 y4 y5 x3 v_u) ∧ (¬ ((64 : Int32)) ≤ y4 → ((x3 < ((0 : Int32)) → (vp_in (((-1 : Int32)) - x3) 14 ∧ (∀ x8 : Int64, x8 = (v_w.2.2 0 (((-1 : Int32)) - x3).toNatClampNeg) → (vp_in y4 64 ∧ (∀ v_u10 : OV, v_u10 = sl v_u 5 (vp_updL (v_u.2.2 5) y4.toNatClampNeg x8) → (∀ x11 : Int32, x11 = y4 + (1 : Int32) → (∀ x12 : Int32, x12 = y5 + (1 : Int32) → PX3_run_L6 v_w post n y2 x11 x12 v_u10))))))) ∧ (¬ x3 < ((0 : Int32)) → (∀ x13 : Int64, x13 = (x3.toInt64) → (vp_in y4 64 ∧ (∀ v_u15 : OV, v_u15 = sl v_u 5 (vp_updL (v_u.2.2 5) y4.toNatClampNeg x13) → (∀ x16 : Int32, x16 = y4 + (1 : Int32) → (∀ x17 : Int32, x17 = y5 + (1 : Int32) → PX3_run_L6 v_w post n y2 x16 x17 v_u15)))))))))))))))
set_option maxRecDepth 100000 in
set_option maxHeartbeats 1000000 in
theorem wX3_run_L6 {v_w : OV}  {post : Int64 → OV → Prop} {ad_u : Nat → Nat} {ad_w : Nat → Nat} (X : kn_X p s m args meth c cX3_run 7 (some .long) RX3 kn_all D tc Z (kn_A w0 s.heap.size))    : ∀ n : Nat, ∀ (H : Heap) (locs : List Loc) (ls : Array Slot) (y2 : Int32) (y4 : Int32) (y5 : Int32) (v_u : OV), kn_I D tc (kn_A w0 s.heap.size) s.heap [(kRule, ad_u, v_u), (kWalk, ad_w, v_w)] H locs → lv_has ls 7 [(0, .ref (ad_u 0)), (2, .int y2), (3, .ref (ad_w (0 + 1))), (4, .int y4), (5, .int y5)] → PX3_run_L6 v_w post n y2 y4 y5 v_u → W p l e rmX3_run s m args below meth c H locs 0 0 (kn_Ql D tc w0 (fun (u : OV) => [(kRule, ad_u, u), (kWalk, ad_w, v_w)]) (fun (r : Int64) (u : OV) => post r u) below args s 0 0) (F0 m 6 ls []) := by
  obtain ⟨S0, hr, hlocks, hK, hZ, hA⟩ := id X
  obtain ⟨hx, hb, hml, hown, hts⟩ := id S0
  intro n
  induction n with
  | zero =>
    intro H locs ls y2 y4 y5 v_u I hl h
    unfold PX3_run_L6 at h
    exact h.elim
  | succ n ih =>
    intro H locs ls y2 y4 y5 v_u I hl h
    unfold PX3_run_L6 at h
    refine lv_iload hx hb (kn_dec tX3_run 4 rfl) (lv_at hl 4 rfl) ?_
    refine lv_iload_n hx hb (kn_dec tX3_run 5 rfl) rfl (lv_at hl 1 rfl) ?_
    refine lv_icmp_ge (tgt := 149) hx hb (kn_dec tX3_run 6 rfl) (by decide) (fun c1 => ?_) (fun c1 => ?_)
    · have h := h.1 c1
      refine lv_aload_n hx hb (kn_dec tX3_run 81 rfl) rfl (lv_at hl 0 rfl) ?_
      refine kw_getl hx hb hts inX3 hown hK I 0 rfl rfl 5 (by decide) rfl (hts _ q1_79) (kn_dec tX3_run 82 rfl) rfl ?_
      refine lv_iconst (v := (0)) hx hb (kn_dec tX3_run 83 rfl) (by decide) ?_
      refine kw_lald hx hb hK I 0 rfl 5 64 (List.mem_of_getElem? (i := 3) rfl) (by unfold vp_in; decide) (kn_dec tX3_run 84 rfl) ?_
      exact kw_lret hx hb hr hlocks I _ rfl h (kn_dec tX3_run 85 rfl)
    · have h := h.2 c1
      refine lv_aload_n hx hb (kn_dec tX3_run 7 rfl) rfl (lv_at hl 0 rfl) ?_
      refine kw_getl hx hb hts inX3 hown hK I 0 rfl rfl 0 (by decide) rfl (hts _ q1_74) (kn_dec tX3_run 8 rfl) rfl ?_
      refine lv_iload hx hb (kn_dec tX3_run 9 rfl) (lv_at hl 4 rfl) ?_
      obtain ⟨hs2, h⟩ := h
      refine kw_iald hx hb hK I 0 rfl 0 400 (List.mem_of_getElem? (i := 0) rfl) hs2 (kn_dec tX3_run 10 rfl) ?_
      refine lv_topi (fun x3 ex3 => ?_)
      have h := h x3 ex3
      refine lv_istore (lv' := [(6, .int _), (0, .ref (ad_u 0)), (2, .int _), (3, .ref (ad_w (0 + 1))), (4, .int _), (5, .int _)]) hx hb (kn_dec tX3_run 11 rfl) hl (by decide) rfl (fun ls hl => ?_)
      refine lv_iload hx hb (kn_dec tX3_run 12 rfl) (lv_at hl 0 rfl) ?_
      refine lv_bipush (v := (-15)) hx hb (kn_dec tX3_run 13 rfl) (by decide) ?_
      refine lv_icmp_le (tgt := 68) hx hb (kn_dec tX3_run 14 rfl) (by decide) (fun c4 => ?_) (fun c4 => ?_)
      · have h := h.1 c4
        exact wX3_run_b68 X ih _ _ _ _ _ _ _ _  I (lv_sub hl [1, 2, 3, 4, 5, 0] rfl) h
      · have h := h.2 c4
        refine lv_iload hx hb (kn_dec tX3_run 15 rfl) (lv_at hl 4 rfl) ?_
        refine lv_aload_n hx hb (kn_dec tX3_run 16 rfl) rfl (lv_at hl 1 rfl) ?_
        refine kw_getl hx hb hts inX3 hown hK I 0 rfl rfl 5 (by decide) rfl (hts _ q1_79) (kn_dec tX3_run 17 rfl) rfl ?_
        refine kw_alen hx hb hK I 0 rfl 5 3 64 (List.mem_of_getElem? (i := 3) rfl) rfl (x := 64) (by decide) (kn_dec tX3_run 18 rfl) ?_
        refine lv_icmp_ge (tgt := 68) hx hb (kn_dec tX3_run 19 rfl) (by decide) (fun c5 => ?_) (fun c5 => ?_)
        · have h := h.1 c5
          exact wX3_run_b68 X ih _ _ _ _ _ _ _ _  I (lv_sub hl [1, 2, 3, 4, 5, 0] rfl) h
        · have h := h.2 c5
          refine lv_aload_n hx hb (kn_dec tX3_run 20 rfl) rfl (lv_at hl 1 rfl) ?_
          refine kw_getl hx hb hts inX3 hown hK I 0 rfl rfl 5 (by decide) rfl (hts _ q1_79) (kn_dec tX3_run 21 rfl) rfl ?_
          refine lv_iload hx hb (kn_dec tX3_run 22 rfl) (lv_at hl 4 rfl) ?_
          refine lv_iload hx hb (kn_dec tX3_run 23 rfl) (lv_at hl 0 rfl) ?_
          refine lv_if_lt (tgt := 55) hx hb (kn_dec tX3_run 24 rfl) (by decide) (fun c6 => ?_) (fun c6 => ?_)
          · have h := h.1 c6
            refine lv_aload_n hx hb (kn_dec tX3_run 28 rfl) rfl (lv_at hl 3 rfl) ?_
            refine lv_iconst (v := (-1)) hx hb (kn_dec tX3_run 29 rfl) (by decide) ?_
            refine lv_iload hx hb (kn_dec tX3_run 30 rfl) (lv_at hl 0 rfl) ?_
            refine lv_isub hx hb (kn_dec tX3_run 31 rfl) ?_
            obtain ⟨hs7, h⟩ := h
            refine kw_lald hx hb hK I 1 rfl 0 14 (List.mem_of_getElem? (i := 0) rfl) hs7 (kn_dec tX3_run 32 rfl) ?_
            refine lv_topl (fun x8 ex8 => ?_)
            have h := h x8 ex8
            obtain ⟨hs9, h⟩ := h
            refine kw_last hx hb hK I 0 rfl 5 64 (List.mem_of_getElem? (i := 3) rfl) ukRule_5 hs9 (kn_dec tX3_run 33 rfl) (fun v_u10 ev_u10 H locs I => ?_)
            have h := h v_u10 ev_u10
            have I : kn_I D tc (kn_A w0 s.heap.size) s.heap [(kRule, ad_u, _), (kWalk, ad_w, _)] _ _ := I
            refine kw_iinc (lvf := fun y => [(4, .int y), (6, .int _), (0, .ref (ad_u 0)), (2, .int _), (3, .ref (ad_w (0 + 1))), (5, .int _)]) (nv := (1)) hx hb (kn_dec tX3_run 34 rfl) hl (k := 4) rfl (by decide) (by decide) (fun _ => rfl) (fun x11 ex11 ls hl => ?_)
            have h := h x11 ex11
            refine lv_goto (tgt := 143) hx hb (kn_dec tX3_run 35 rfl) (by decide) ?_
            refine kw_iinc (lvf := fun y => [(5, .int y), (4, .int _), (6, .int _), (0, .ref (ad_u 0)), (2, .int _), (3, .ref (ad_w (0 + 1)))]) (nv := (1)) hx hb (kn_dec tX3_run 79 rfl) hl (k := 5) rfl (by decide) (by decide) (fun _ => rfl) (fun x12 ex12 ls hl => ?_)
            have h := h x12 ex12
            refine lv_goto (tgt := 6) hx hb (kn_dec tX3_run 80 rfl) (by decide) ?_
            exact ih _ _ _ _ _ _ _  I (lv_sub hl [3, 4, 5, 1, 0] rfl) h
          · have h := h.2 c6
            refine lv_iload hx hb (kn_dec tX3_run 25 rfl) (lv_at hl 0 rfl) ?_
            refine lv_i2l hx hb (kn_dec tX3_run 26 rfl) rfl ?_
            refine lv_goto (tgt := 61) hx hb (kn_dec tX3_run 27 rfl) (by decide) ?_
            refine lv_topl (fun x13 ex13 => ?_)
            have h := h x13 ex13
            obtain ⟨hs14, h⟩ := h
            refine kw_last hx hb hK I 0 rfl 5 64 (List.mem_of_getElem? (i := 3) rfl) ukRule_5 hs14 (kn_dec tX3_run 33 rfl) (fun v_u15 ev_u15 H locs I => ?_)
            have h := h v_u15 ev_u15
            have I : kn_I D tc (kn_A w0 s.heap.size) s.heap [(kRule, ad_u, _), (kWalk, ad_w, _)] _ _ := I
            refine kw_iinc (lvf := fun y => [(4, .int y), (6, .int _), (0, .ref (ad_u 0)), (2, .int _), (3, .ref (ad_w (0 + 1))), (5, .int _)]) (nv := (1)) hx hb (kn_dec tX3_run 34 rfl) hl (k := 4) rfl (by decide) (by decide) (fun _ => rfl) (fun x16 ex16 ls hl => ?_)
            have h := h x16 ex16
            refine lv_goto (tgt := 143) hx hb (kn_dec tX3_run 35 rfl) (by decide) ?_
            refine kw_iinc (lvf := fun y => [(5, .int y), (4, .int _), (6, .int _), (0, .ref (ad_u 0)), (2, .int _), (3, .ref (ad_w (0 + 1)))]) (nv := (1)) hx hb (kn_dec tX3_run 79 rfl) hl (k := 5) rfl (by decide) (by decide) (fun _ => rfl) (fun x17 ex17 ls hl => ?_)
            have h := h x17 ex17
            refine lv_goto (tgt := 6) hx hb (kn_dec tX3_run 80 rfl) (by decide) ?_
            exact ih _ _ _ _ _ _ _  I (lv_sub hl [3, 4, 5, 1, 0] rfl) h
def PX3_run  (v_u : OV) (v_w : OV) (a1 : Int32) (a2 : Int32) (post : Int64 → OV → Prop) : Prop := (∃ n1 : Nat, PX3_run_L6 v_w post n1 a2 ((0 : Int32)) a1 v_u)
set_option maxRecDepth 100000 in
set_option maxHeartbeats 1000000 in
theorem ctX3_run {l : Launch} {D : va_G} {tc : Nat → ClassId} {Z : (Nat → Nat) × (Nat → Nat)}  {ad_u : Nat → Nat} {ad_w : Nat → Nat} {v_u : OV} {v_w : OV} {a1 : Int32} {a2 : Int32}    {post : Int64 → OV → Prop} (h : PX3_run  v_u v_w a1 a2 post) : CTl l D tc Z yX3_run (Cond.code yX3_run cX3_run 7 (some .long) :: kn_all) rmX3_run 0 0 [.ref (ad_u 0), .int a1, .int a2, .ref (ad_w (0 + 1))] [(kRule, ad_u, v_u), (kWalk, ad_w, v_w)] (fun (u : OV) => [(kRule, ad_u, u), (kWalk, ad_w, v_w)]) (fun (r : Int64) (u : OV) => post r u) := by
  refine kn_ofl (cc := cX3_run) (nL := 7) (ret := (some .long)) (lv := [(0, .ref (ad_u 0)), (1, .int a1), (2, .int a2), (3, .ref (ad_w (0 + 1)))]) (by decide) (Nat.le_of_ble_eq_true rfl) rfl (fun p e s m below meth c ls X I hl _ => ?_)
  obtain ⟨S0, hr, hlocks, hK, hZ, hA⟩ := id X
  obtain ⟨hx, hb, hml, hown, hts⟩ := id S0
  unfold PX3_run at h
  refine lv_iconst (v := (0)) hx hb (kn_dec tX3_run 0 rfl) (by decide) ?_
  refine lv_istore (lv' := [(4, .int _), (0, .ref (ad_u 0)), (1, .int _), (2, .int _), (3, .ref (ad_w (0 + 1)))]) hx hb (kn_dec tX3_run 1 rfl) hl (by decide) rfl (fun ls hl => ?_)
  refine lv_iload_n hx hb (kn_dec tX3_run 2 rfl) rfl (lv_at hl 2 rfl) ?_
  refine lv_istore (lv' := [(5, .int _), (4, .int _), (0, .ref (ad_u 0)), (1, .int _), (2, .int _), (3, .ref (ad_w (0 + 1)))]) hx hb (kn_dec tX3_run 3 rfl) hl (by decide) rfl (fun ls hl => ?_)
  obtain ⟨n1, h⟩ := h
  exact wX3_run_L6 X n1 _ _ _ _ _ _ _  I (lv_sub hl [2, 4, 5, 1, 0] rfl) h

/-! X3_sum -/
abbrev rmX3_sum : Room := { frames := 2, cells := 0, slots := 0, locals := 50 }
def PX3_sum_b61 (v_w : OV)  (post : Int64 → OV → Prop) (y2 : Int32) (v_u : OV) : Prop := (vp_in y2 13 ∧ (vp_in y2 12 ∧ (PX3_run v_u v_w (v_u.2.1 2 y2.toNatClampNeg) (v_u.2.1 3 y2.toNatClampNeg) (fun r4 v_u3 => post r4 v_u3))))
set_option maxRecDepth 100000 in
set_option maxHeartbeats 1000000 in
theorem wX3_sum_b61 {v_w : OV}  {post : Int64 → OV → Prop} {ad_u : Nat → Nat} {ad_w : Nat → Nat} (X : kn_X p s m args meth c cX3_sum 4 (some .long) RX3 kn_all D tc Z (kn_A w0 s.heap.size))    : ∀ (H : Heap) (locs : List Loc) (ls : Array Slot) (y2 : Int32) (v_u : OV), kn_I D tc (kn_A w0 s.heap.size) s.heap [(kRule, ad_u, v_u), (kWalk, ad_w, v_w)] H locs → lv_has ls 4 [(0, .ref (ad_u 0)), (1, .ref (ad_w (0 + 1))), (2, .int y2)] → PX3_sum_b61 v_w post y2 v_u → W p l e rmX3_sum s m args below meth c H locs 0 0 (kn_Ql D tc w0 (fun (u : OV) => [(kRule, ad_u, u), (kWalk, ad_w, v_w)]) (fun (r : Int64) (u : OV) => post r u) below args s 0 0) (F0 m 61 ls []) := by
  obtain ⟨S0, hr, hlocks, hK, hZ, hA⟩ := id X
  obtain ⟨hx, hb, hml, hown, hts⟩ := id S0
  intro H locs ls y2 v_u I hl h
  unfold PX3_sum_b61 at h
  refine lv_aload_n hx hb (kn_dec tX3_sum 39 rfl) rfl (lv_at hl 0 rfl) ?_
  refine lv_aload_n hx hb (kn_dec tX3_sum 40 rfl) rfl (lv_at hl 0 rfl) ?_
  refine kw_getl hx hb hts inX3 hown hK I 0 rfl rfl 2 (by decide) rfl (hts _ q1_76) (kn_dec tX3_sum 41 rfl) rfl ?_
  refine lv_iload_n hx hb (kn_dec tX3_sum 42 rfl) rfl (lv_at hl 2 rfl) ?_
  obtain ⟨hs1, h⟩ := h
  refine kw_iald hx hb hK I 0 rfl 2 13 (List.mem_of_getElem? (i := 1) rfl) hs1 (kn_dec tX3_sum 43 rfl) ?_
  refine lv_aload_n hx hb (kn_dec tX3_sum 44 rfl) rfl (lv_at hl 0 rfl) ?_
  refine kw_getl hx hb hts inX3 hown hK I 0 rfl rfl 3 (by decide) rfl (hts _ q1_77) (kn_dec tX3_sum 45 rfl) rfl ?_
  refine lv_iload_n hx hb (kn_dec tX3_sum 46 rfl) rfl (lv_at hl 2 rfl) ?_
  obtain ⟨hs2, h⟩ := h
  refine kw_iald hx hb hK I 0 rfl 3 12 (List.mem_of_getElem? (i := 2) rfl) hs2 (kn_dec tX3_sum 47 rfl) ?_
  refine lv_aload_n hx hb (kn_dec tX3_sum 48 rfl) rfl (lv_at hl 1 rfl) ?_
  refine kw_calll (wc := [(kRule, ad_u, _), (kWalk, ad_w, _)]) (wr := []) I hA [0, 1] [] rfl rfl (by decide) (by decide) (kn_runV (As := [.int _, .int _, .ref (ad_w (0 + 1))]) S0 hK hZ hA I ((ctX3_run h).met _) (kn_cwV 3 hts q3_227 q3_229 q0_18 q1_5 q3_230 rfl rfl (by decide +kernel) ⟨(Nat.le_of_ble_eq_true rfl), (Nat.le_of_ble_eq_true rfl)⟩) [0, 1] rfl (by decide) 0 rfl rfl rfl rfl hl.1 rfl (Nat.le_of_ble_eq_true rfl) (kn_dec tX3_sum 49 rfl) ⟨(Nat.le_of_ble_eq_true rfl), (Nat.le_of_ble_eq_true rfl)⟩) (fun r4 u5 H locs h I => ?_)
  have I : kn_I D tc (kn_A w0 s.heap.size) s.heap [(kRule, ad_u, _), (kWalk, ad_w, _)] _ _ := I
  exact kw_lret hx hb hr hlocks I _ rfl h (kn_dec tX3_sum 50 rfl)
def PX3_sum_b32 (v_w : OV) (K2 : Int32 → OV → Prop) (post : Int64 → OV → Prop) (t0 : Int32) (y2 : Int32) (v_u : OV) : Prop := ((¬ t0 = ((0 : Int32)) → PX3_sum_b61 v_w post y2 v_u) ∧ (t0 = ((0 : Int32)) → (vp_in y2 12 ∧ (vp_in (y2 + ((1 : Int32))) 13 ∧ (PX3_run v_u v_w (v_u.2.1 3 y2.toNatClampNeg) (v_u.2.1 2 (y2 + ((1 : Int32))).toNatClampNeg) (fun r5 v_u4 => (((lg_cmp r5 ((0 : Int64))) = ((0 : Int32)) → (∀ x8 : Int32, x8 = y2 + (1 : Int32) → K2 x8 v_u4)) ∧ (¬ (lg_cmp r5 ((0 : Int64))) = ((0 : Int32)) → PX3_sum_b61 v_w post y2 v_u4))))))))
set_option maxRecDepth 100000 in
set_option maxHeartbeats 1000000 in
theorem wX3_sum_b32 {v_w : OV} {K2 : Int32 → OV → Prop} {post : Int64 → OV → Prop} {ad_u : Nat → Nat} {ad_w : Nat → Nat} (X : kn_X p s m args meth c cX3_sum 4 (some .long) RX3 kn_all D tc Z (kn_A w0 s.heap.size))   (hK2 : ∀ (H : Heap) (locs : List Loc) (ls : Array Slot) (y2 : Int32) (v_u : OV), kn_I D tc (kn_A w0 s.heap.size) s.heap [(kRule, ad_u, v_u), (kWalk, ad_w, v_w)] H locs → lv_has ls 4 [(0, .ref (ad_u 0)), (1, .ref (ad_w (0 + 1))), (2, .int y2)] → K2 y2 v_u → W p l e rmX3_sum s m args below meth c H locs 0 0 (kn_Ql D tc w0 (fun (u : OV) => [(kRule, ad_u, u), (kWalk, ad_w, v_w)]) (fun (r : Int64) (u : OV) => post r u) below args s 0 0) (F0 m 2 ls [])) : ∀ (H : Heap) (locs : List Loc) (ls : Array Slot) (t0 : Int32) (y2 : Int32) (v_u : OV), (hz_t0 : t0 = 0 ∨ t0 = 1) → kn_I D tc (kn_A w0 s.heap.size) s.heap [(kRule, ad_u, v_u), (kWalk, ad_w, v_w)] H locs → lv_has ls 4 [(0, .ref (ad_u 0)), (1, .ref (ad_w (0 + 1))), (2, .int y2)] → PX3_sum_b32 v_w K2 post t0 y2 v_u → W p l e rmX3_sum s m args below meth c H locs 0 0 (kn_Ql D tc w0 (fun (u : OV) => [(kRule, ad_u, u), (kWalk, ad_w, v_w)]) (fun (r : Int64) (u : OV) => post r u) below args s 0 0) (F0 m 32 ls [.int t0]) := by
  obtain ⟨S0, hr, hlocks, hK, hZ, hA⟩ := id X
  obtain ⟨hx, hb, hml, hown, hts⟩ := id S0
  intro H locs ls t0 y2 v_u hz_t0 I hl h
  unfold PX3_sum_b32 at h
  refine lv_istore_n (lv' := [(3, .int _), (0, .ref (ad_u 0)), (1, .ref (ad_w (0 + 1))), (2, .int _)]) hx hb (kn_dec tX3_sum 20 rfl) rfl hl (by decide) rfl (fun ls hl => ?_)
  refine lv_iload_n hx hb (kn_dec tX3_sum 21 rfl) rfl (lv_at hl 0 rfl) ?_
  refine lv_if_ne (tgt := 61) hx hb (kn_dec tX3_sum 22 rfl) (by decide) (fun c1 => ?_) (fun c1 => ?_)
  · have h := h.1 c1
    exact wX3_sum_b61 X _ _ _ _ _  I (lv_sub hl [1, 2, 3] rfl) h
  · have h := h.2 c1
    refine lv_aload_n hx hb (kn_dec tX3_sum 23 rfl) rfl (lv_at hl 1 rfl) ?_
    refine lv_aload_n hx hb (kn_dec tX3_sum 24 rfl) rfl (lv_at hl 1 rfl) ?_
    refine kw_getl hx hb hts inX3 hown hK I 0 rfl rfl 3 (by decide) rfl (hts _ q1_77) (kn_dec tX3_sum 25 rfl) rfl ?_
    refine lv_iload_n hx hb (kn_dec tX3_sum 26 rfl) rfl (lv_at hl 3 rfl) ?_
    obtain ⟨hs2, h⟩ := h
    refine kw_iald hx hb hK I 0 rfl 3 12 (List.mem_of_getElem? (i := 2) rfl) hs2 (kn_dec tX3_sum 27 rfl) ?_
    refine lv_aload_n hx hb (kn_dec tX3_sum 28 rfl) rfl (lv_at hl 1 rfl) ?_
    refine kw_getl hx hb hts inX3 hown hK I 0 rfl rfl 2 (by decide) rfl (hts _ q1_76) (kn_dec tX3_sum 29 rfl) rfl ?_
    refine lv_iload_n hx hb (kn_dec tX3_sum 30 rfl) rfl (lv_at hl 3 rfl) ?_
    refine lv_iconst (v := (1)) hx hb (kn_dec tX3_sum 31 rfl) (by decide) ?_
    refine lv_iadd hx hb (kn_dec tX3_sum 32 rfl) ?_
    obtain ⟨hs3, h⟩ := h
    refine kw_iald hx hb hK I 0 rfl 2 13 (List.mem_of_getElem? (i := 1) rfl) hs3 (kn_dec tX3_sum 33 rfl) ?_
    refine lv_aload_n hx hb (kn_dec tX3_sum 34 rfl) rfl (lv_at hl 2 rfl) ?_
    refine kw_calll (wc := [(kRule, ad_u, _), (kWalk, ad_w, _)]) (wr := []) I hA [0, 1] [] rfl rfl (by decide) (by decide) (kn_runV (As := [.int _, .int _, .ref (ad_w (0 + 1))]) S0 hK hZ hA I ((ctX3_run h).met _) (kn_cwV 3 hts q3_227 q3_229 q0_18 q1_5 q3_230 rfl rfl (by decide +kernel) ⟨(Nat.le_of_ble_eq_true rfl), (Nat.le_of_ble_eq_true rfl)⟩) [0, 1] rfl (by decide) 0 rfl rfl rfl rfl hl.1 rfl (Nat.le_of_ble_eq_true rfl) (kn_dec tX3_sum 35 rfl) ⟨(Nat.le_of_ble_eq_true rfl), (Nat.le_of_ble_eq_true rfl)⟩) (fun r5 u6 H locs h I => ?_)
    have I : kn_I D tc (kn_A w0 s.heap.size) s.heap [(kRule, ad_u, _), (kWalk, ad_w, _)] _ _ := I
    refine lv_lconst (v := 0) hx hb (kn_dec tX3_sum 36 rfl) (by decide) ?_
    refine W.lcmp hx hb (kn_dec tX3_sum 37 rfl) ?_
    refine lv_if_eq (tgt := 79) hx hb (kn_dec tX3_sum 38 rfl) (by decide) (fun c7 => ?_) (fun c7 => ?_)
    · have h := h.1 c7
      refine kw_iinc (lvf := fun y => [(2, .int y), (3, .int _), (0, .ref (ad_u 0)), (1, .ref (ad_w (0 + 1)))]) (nv := (1)) hx hb (kn_dec tX3_sum 51 rfl) hl (k := 3) rfl (by decide) (by decide) (fun _ => rfl) (fun x8 ex8 ls hl => ?_)
      have h := h x8 ex8
      refine lv_goto (tgt := 2) hx hb (kn_dec tX3_sum 52 rfl) (by decide) ?_
      exact hK2 _ _ _ _ _  I (lv_sub hl [2, 3, 0] rfl) h
    · have h := h.2 c7
      exact wX3_sum_b61 X _ _ _ _ _  I (lv_sub hl [1, 2, 3] rfl) h
def PX3_sum_L2 (v_w : OV)  (post : Int64 → OV → Prop) : Nat → Int32 → OV → Prop
  | 0, _, _ => False
  | n + 1, y2, v_u => (((v_u.1 4) ≤ y2 → post ((0 : Int64)) v_u) ∧ (¬ (v_u.1 4) ≤ y2 → (vp_in y2 12 ∧ (vp_in (y2 + ((1 : Int32))) 13 ∧ ((¬ (v_u.2.1 3 y2.toNatClampNeg) = (v_u.2.1 2 (y2 + ((1 : Int32))).toNatClampNeg) → PX3_sum_b32 v_w (PX3_sum_L2 v_w post n) post ((0 : Int32)) y2 v_u) ∧ ((v_u.2.1 3 y2.toNatClampNeg) = (v_u.2.1 2 (y2 + ((1 : Int32))).toNatClampNeg) → PX3_sum_b32 v_w (PX3_sum_L2 v_w post n) post ((1 : Int32)) y2 v_u))))))
set_option maxRecDepth 100000 in
set_option maxHeartbeats 1000000 in
theorem wX3_sum_L2 {v_w : OV}  {post : Int64 → OV → Prop} {ad_u : Nat → Nat} {ad_w : Nat → Nat} (X : kn_X p s m args meth c cX3_sum 4 (some .long) RX3 kn_all D tc Z (kn_A w0 s.heap.size))    : ∀ n : Nat, ∀ (H : Heap) (locs : List Loc) (ls : Array Slot) (y2 : Int32) (v_u : OV), kn_I D tc (kn_A w0 s.heap.size) s.heap [(kRule, ad_u, v_u), (kWalk, ad_w, v_w)] H locs → lv_has ls 4 [(0, .ref (ad_u 0)), (1, .ref (ad_w (0 + 1))), (2, .int y2)] → PX3_sum_L2 v_w post n y2 v_u → W p l e rmX3_sum s m args below meth c H locs 0 0 (kn_Ql D tc w0 (fun (u : OV) => [(kRule, ad_u, u), (kWalk, ad_w, v_w)]) (fun (r : Int64) (u : OV) => post r u) below args s 0 0) (F0 m 2 ls []) := by
  obtain ⟨S0, hr, hlocks, hK, hZ, hA⟩ := id X
  obtain ⟨hx, hb, hml, hown, hts⟩ := id S0
  intro n
  induction n with
  | zero =>
    intro H locs ls y2 v_u I hl h
    unfold PX3_sum_L2 at h
    exact h.elim
  | succ n ih =>
    intro H locs ls y2 v_u I hl h
    unfold PX3_sum_L2 at h
    refine lv_iload_n hx hb (kn_dec tX3_sum 2 rfl) rfl (lv_at hl 2 rfl) ?_
    refine lv_aload_n hx hb (kn_dec tX3_sum 3 rfl) rfl (lv_at hl 0 rfl) ?_
    refine kw_geti hx hb hts inX3 hown hK I 0 rfl rfl 4 (by decide) rfl (hts _ q1_78) (kn_dec tX3_sum 4 rfl) ?_
    refine lv_icmp_ge (tgt := 85) hx hb (kn_dec tX3_sum 5 rfl) (by decide) (fun c1 => ?_) (fun c1 => ?_)
    · have h := h.1 c1
      refine lv_lconst (v := 0) hx hb (kn_dec tX3_sum 53 rfl) (by decide) ?_
      exact kw_lret hx hb hr hlocks I _ rfl h (kn_dec tX3_sum 54 rfl)
    · have h := h.2 c1
      refine lv_aload_n hx hb (kn_dec tX3_sum 6 rfl) rfl (lv_at hl 0 rfl) ?_
      refine kw_getl hx hb hts inX3 hown hK I 0 rfl rfl 3 (by decide) rfl (hts _ q1_77) (kn_dec tX3_sum 7 rfl) rfl ?_
      refine lv_iload_n hx hb (kn_dec tX3_sum 8 rfl) rfl (lv_at hl 2 rfl) ?_
      obtain ⟨hs2, h⟩ := h
      refine kw_iald hx hb hK I 0 rfl 3 12 (List.mem_of_getElem? (i := 2) rfl) hs2 (kn_dec tX3_sum 9 rfl) ?_
      refine lv_aload_n hx hb (kn_dec tX3_sum 10 rfl) rfl (lv_at hl 0 rfl) ?_
      refine kw_getl hx hb hts inX3 hown hK I 0 rfl rfl 2 (by decide) rfl (hts _ q1_76) (kn_dec tX3_sum 11 rfl) rfl ?_
      refine lv_iload_n hx hb (kn_dec tX3_sum 12 rfl) rfl (lv_at hl 2 rfl) ?_
      refine lv_iconst (v := (1)) hx hb (kn_dec tX3_sum 13 rfl) (by decide) ?_
      refine lv_iadd hx hb (kn_dec tX3_sum 14 rfl) ?_
      obtain ⟨hs3, h⟩ := h
      refine kw_iald hx hb hK I 0 rfl 2 13 (List.mem_of_getElem? (i := 1) rfl) hs3 (kn_dec tX3_sum 15 rfl) ?_
      refine lv_icmp_ne (tgt := 31) hx hb (kn_dec tX3_sum 16 rfl) (by decide) (fun c4 => ?_) (fun c4 => ?_)
      · have h := h.1 c4
        refine lv_iconst (v := (0)) hx hb (kn_dec tX3_sum 19 rfl) (by decide) ?_
        exact wX3_sum_b32 X ih _ _ _ _ _ _ (Or.inl rfl) I (lv_sub hl [0, 1, 2] rfl) h
      · have h := h.2 c4
        refine lv_iconst (v := (1)) hx hb (kn_dec tX3_sum 17 rfl) (by decide) ?_
        refine lv_goto (tgt := 32) hx hb (kn_dec tX3_sum 18 rfl) (by decide) ?_
        exact wX3_sum_b32 X ih _ _ _ _ _ _ (Or.inr rfl) I (lv_sub hl [0, 1, 2] rfl) h
def PX3_sum  (v_u : OV) (v_w : OV) (post : Int64 → OV → Prop) : Prop := (∃ n1 : Nat, PX3_sum_L2 v_w post n1 ((0 : Int32)) v_u)
set_option maxRecDepth 100000 in
set_option maxHeartbeats 1000000 in
theorem ctX3_sum {l : Launch} {D : va_G} {tc : Nat → ClassId} {Z : (Nat → Nat) × (Nat → Nat)}  {ad_u : Nat → Nat} {ad_w : Nat → Nat} {v_u : OV} {v_w : OV}    {post : Int64 → OV → Prop} (h : PX3_sum  v_u v_w post) : CTl l D tc Z yX3_sum (Cond.code yX3_sum cX3_sum 4 (some .long) :: kn_all) rmX3_sum 0 0 [.ref (ad_u 0), .ref (ad_w (0 + 1))] [(kRule, ad_u, v_u), (kWalk, ad_w, v_w)] (fun (u : OV) => [(kRule, ad_u, u), (kWalk, ad_w, v_w)]) (fun (r : Int64) (u : OV) => post r u) := by
  refine kn_ofl (cc := cX3_sum) (nL := 4) (ret := (some .long)) (lv := [(0, .ref (ad_u 0)), (1, .ref (ad_w (0 + 1)))]) (by decide) (Nat.le_of_ble_eq_true rfl) rfl (fun p e s m below meth c ls X I hl _ => ?_)
  obtain ⟨S0, hr, hlocks, hK, hZ, hA⟩ := id X
  obtain ⟨hx, hb, hml, hown, hts⟩ := id S0
  unfold PX3_sum at h
  refine lv_iconst (v := (0)) hx hb (kn_dec tX3_sum 0 rfl) (by decide) ?_
  refine lv_istore_n (lv' := [(2, .int _), (0, .ref (ad_u 0)), (1, .ref (ad_w (0 + 1)))]) hx hb (kn_dec tX3_sum 1 rfl) rfl hl (by decide) rfl (fun ls hl => ?_)
  obtain ⟨n1, h⟩ := h
  exact wX3_sum_L2 X n1 _ _ _ _ _  I (lv_sub hl [1, 2, 0] rfl) h

/-! X7_rate_N -/
abbrev rmX7_rate_N : Room := { frames := 3, cells := 0, slots := 0, locals := 87 }
def PX7_rate_N  (v_w : OV) (v_h : OV) (v_s : OV) (a4 : Int32) (a5 : Int32) (post : Int64 → Prop) : Prop := (vp_in a5 10 ∧ (∀ x2 : Int32, x2 = (if 0 ≤ ((v_h.2.1 5 a5.toNatClampNeg) - (v_s.1 1)) then ((v_h.2.1 5 a5.toNatClampNeg) - (v_s.1 1)) else 0 - ((v_h.2.1 5 a5.toNatClampNeg) - (v_s.1 1))) → post ((-x2).toInt64)))
set_option maxRecDepth 100000 in
set_option maxHeartbeats 1000000 in
theorem ctX7_rate_N {l : Launch} {D : va_G} {tc : Nat → ClassId} {Z : (Nat → Nat) × (Nat → Nat)}  {ad_w : Nat → Nat} {ad_h : Nat → Nat} {ad_s : Nat → Nat} {v_w : OV} {v_h : OV} {v_s : OV} {a4 : Int32} {a5 : Int32}    {post : Int64 → Prop} (h : PX7_rate_N  v_w v_h v_s a4 a5 post) : CTl l D tc Z yX7_rate (Cond.code yX7_rate cX7_rate 7 (some .long) :: kn_all) rmX7_rate_N 0 0 [.ref (ad_w 0), .ref (ad_h 0), .null, .ref (ad_s 0), .int a4, .int a5] [(kWalk, ad_w, v_w), (kHill, ad_h, v_h), (kState, ad_s, v_s)] (fun (u : Unit) => [(kWalk, ad_w, v_w), (kHill, ad_h, v_h), (kState, ad_s, v_s)]) (fun (r : Int64) (u : Unit) => post r) := by
  refine kn_ofl (cc := cX7_rate) (nL := 7) (ret := (some .long)) (lv := [(0, .ref (ad_w 0)), (1, .ref (ad_h 0)), (2, .null), (3, .ref (ad_s 0)), (4, .int a4), (5, .int a5)]) (by decide) (Nat.le_of_ble_eq_true rfl) rfl (fun p e s m below meth c ls X I hl _ => ?_)
  obtain ⟨S0, hr, hlocks, hK, hZ, hA⟩ := id X
  obtain ⟨hx, hb, hml, hown, hts⟩ := id S0
  unfold PX7_rate_N at h
  refine lv_aload_n hx hb (kn_dec tX7_rate_t0 0 rfl) rfl (lv_at hl 1 rfl) ?_
  refine kw_getl hx hb hts inX0 hown hK I 1 rfl rfl 5 (by decide) rfl (hts _ q1_134) (kn_dec tX7_rate_t0 1 rfl) rfl ?_
  refine lv_iload hx hb (kn_dec tX7_rate_t0 2 rfl) (lv_at hl 5 rfl) ?_
  obtain ⟨hs1, h⟩ := h
  refine kw_iald hx hb hK I 1 rfl 5 10 (List.mem_of_getElem? (i := 0) rfl) hs1 (kn_dec tX7_rate_t0 3 rfl) ?_
  refine lv_aload_n hx hb (kn_dec tX7_rate_t0 4 rfl) rfl (lv_at hl 3 rfl) ?_
  refine kw_geti hx hb hts inX6 hown hK I 2 rfl rfl 1 (by decide) rfl (hts _ q1_223) (kn_dec tX7_rate_t0 5 rfl) ?_
  refine lv_isub hx hb (kn_dec tX7_rate_t0 6 rfl) ?_
  refine va_mabs hx hb (hml.trans hl.1.symm) hown (hts _ q3_213) (hts _ q3_214) (hts _ q1_11) (hts _ q3_215) (Nat.le_of_ble_eq_true rfl) (Nat.le_of_ble_eq_true rfl) (Nat.le_of_ble_eq_true rfl) (Nat.le_of_ble_eq_true rfl) (kn_dec tX7_rate_t0 7 rfl) ?_
  refine lv_topi (fun x2 ex2 => ?_)
  have h := h x2 ex2
  refine lv_istore (lv' := [(6, .int _), (0, .ref (ad_w 0)), (1, .ref (ad_h 0)), (2, .null), (3, .ref (ad_s 0)), (4, .int _), (5, .int _)]) hx hb (kn_dec tX7_rate_t0 8 rfl) hl (by decide) rfl (fun ls hl => ?_)
  refine lv_aload_nN hx hb (kn_dec tX7_rate_t0 9 rfl) rfl (lv_at hl 3 rfl) ?_
  refine lv_ifnonnullN hx hb (kn_dec tX7_rate_t0 10 rfl) ?_
  refine lv_iload hx hb (kn_dec tX7_rate_t0 11 rfl) (lv_at hl 0 rfl) ?_
  refine lv_ineg hx hb (kn_dec tX7_rate_t0 12 rfl) ?_
  refine lv_i2l hx hb (kn_dec tX7_rate_t0 13 rfl) rfl ?_
  exact kw_lret hx hb hr hlocks I () rfl h (kn_dec tX7_rate_t0 14 rfl)

/-! X7_rate_R -/
abbrev rmX7_rate_R : Room := { frames := 3, cells := 0, slots := 0, locals := 87 }
def PX7_rate_R  (v_w : OV) (v_h : OV) (v_u : OV) (v_s : OV) (a4 : Int32) (a5 : Int32) (post : Int64 → OV → OV → Prop) : Prop := (vp_in a5 10 ∧ (∀ x2 : Int32, x2 = (if 0 ≤ ((v_h.2.1 5 a5.toNatClampNeg) - (v_s.1 1)) then ((v_h.2.1 5 a5.toNatClampNeg) - (v_s.1 1)) else 0 - ((v_h.2.1 5 a5.toNatClampNeg) - (v_s.1 1))) → (∀ x3 : Int64, x3 = (a5.toInt64) → (∀ v_w4 : OV, v_w4 = sl v_w 0 (vp_updL (v_w.2.2 0) ((1 : Int32)).toNatClampNeg x3) → (vp_in a5 10 ∧ (∀ x6 : Int64, x6 = ((v_h.2.1 5 a5.toNatClampNeg).toInt64) → (∀ v_w7 : OV, v_w7 = sl v_w4 0 (vp_updL (v_w4.2.2 0) ((2 : Int32)).toNatClampNeg x6) → (vp_in a5 10 ∧ (∀ x9 : Int64, x9 = ((v_h.2.1 6 a5.toNatClampNeg).toInt64) → (∀ v_w10 : OV, v_w10 = sl v_w7 0 (vp_updL (v_w7.2.2 0) ((3 : Int32)).toNatClampNeg x9) → (vp_in a5 10 ∧ (∀ x12 : Int64, x12 = ((v_h.2.1 7 a5.toNatClampNeg).toInt64) → (∀ v_w13 : OV, v_w13 = sl v_w10 0 (vp_updL (v_w10.2.2 0) ((4 : Int32)).toNatClampNeg x12) → (vp_in a5 10 ∧ (∀ x15 : Int64, x15 = ((v_s.2.1 3 a5.toNatClampNeg).toInt64) → (∀ v_w16 : OV, v_w16 = sl v_w13 0 (vp_updL (v_w13.2.2 0) ((5 : Int32)).toNatClampNeg x15) → (∀ x17 : Int64, x17 = (x2.toInt64) → (∀ v_w18 : OV, v_w18 = sl v_w16 0 (vp_updL (v_w16.2.2 0) ((7 : Int32)).toNatClampNeg x17) → (PX0_minutes v_h v_s a4 a5 (fun r19 => (∀ x21 : Int64, x21 = (r19.toInt64) → (∀ v_w22 : OV, v_w22 = sl v_w18 0 (vp_updL (v_w18.2.2 0) ((8 : Int32)).toNatClampNeg x21) → (vp_in a4 4 ∧ (∀ x24 : Int64, x24 = ((((v_s.2.1 8 a4.toNatClampNeg) >>> (a5 &&& 31)) &&& ((1 : Int32))).toInt64) → (∀ v_w25 : OV, v_w25 = sl v_w22 0 (vp_updL (v_w22.2.2 0) ((11 : Int32)).toNatClampNeg x24) → (PX3_sum v_u v_w25 (fun r27 v_u26 => post r27 v_w25 v_u26)))))))))))))))))))))))))))
set_option maxRecDepth 100000 in
set_option maxHeartbeats 1000000 in
theorem ctX7_rate_R {l : Launch} {D : va_G} {tc : Nat → ClassId} {Z : (Nat → Nat) × (Nat → Nat)}  {ad_w : Nat → Nat} {ad_h : Nat → Nat} {ad_u : Nat → Nat} {ad_s : Nat → Nat} {v_w : OV} {v_h : OV} {v_u : OV} {v_s : OV} {a4 : Int32} {a5 : Int32}    {post : Int64 → OV → OV → Prop} (h : PX7_rate_R  v_w v_h v_u v_s a4 a5 post) : CTl l D tc Z yX7_rate (Cond.code yX7_rate cX7_rate 7 (some .long) :: kn_all) rmX7_rate_R 0 0 [.ref (ad_w 0), .ref (ad_h 0), .ref (ad_u 0), .ref (ad_s 0), .int a4, .int a5] [(kWalk, ad_w, v_w), (kHill, ad_h, v_h), (kRule, ad_u, v_u), (kState, ad_s, v_s)] (fun (u : OV × OV) => [(kWalk, ad_w, u.1), (kHill, ad_h, v_h), (kRule, ad_u, u.2), (kState, ad_s, v_s)]) (fun (r : Int64) (u : OV × OV) => post r u.1 u.2) := by
  refine kn_ofl (cc := cX7_rate) (nL := 7) (ret := (some .long)) (lv := [(0, .ref (ad_w 0)), (1, .ref (ad_h 0)), (2, .ref (ad_u 0)), (3, .ref (ad_s 0)), (4, .int a4), (5, .int a5)]) (by decide) (Nat.le_of_ble_eq_true rfl) rfl (fun p e s m below meth c ls X I hl _ => ?_)
  obtain ⟨S0, hr, hlocks, hK, hZ, hA⟩ := id X
  obtain ⟨hx, hb, hml, hown, hts⟩ := id S0
  unfold PX7_rate_R at h
  refine lv_aload_n hx hb (kn_dec tX7_rate_t0 0 rfl) rfl (lv_at hl 1 rfl) ?_
  refine kw_getl hx hb hts inX0 hown hK I 1 rfl rfl 5 (by decide) rfl (hts _ q1_134) (kn_dec tX7_rate_t0 1 rfl) rfl ?_
  refine lv_iload hx hb (kn_dec tX7_rate_t0 2 rfl) (lv_at hl 5 rfl) ?_
  obtain ⟨hs1, h⟩ := h
  refine kw_iald hx hb hK I 1 rfl 5 10 (List.mem_of_getElem? (i := 0) rfl) hs1 (kn_dec tX7_rate_t0 3 rfl) ?_
  refine lv_aload_n hx hb (kn_dec tX7_rate_t0 4 rfl) rfl (lv_at hl 3 rfl) ?_
  refine kw_geti hx hb hts inX6 hown hK I 3 rfl rfl 1 (by decide) rfl (hts _ q1_223) (kn_dec tX7_rate_t0 5 rfl) ?_
  refine lv_isub hx hb (kn_dec tX7_rate_t0 6 rfl) ?_
  refine va_mabs hx hb (hml.trans hl.1.symm) hown (hts _ q3_213) (hts _ q3_214) (hts _ q1_11) (hts _ q3_215) (Nat.le_of_ble_eq_true rfl) (Nat.le_of_ble_eq_true rfl) (Nat.le_of_ble_eq_true rfl) (Nat.le_of_ble_eq_true rfl) (kn_dec tX7_rate_t0 7 rfl) ?_
  refine lv_topi (fun x2 ex2 => ?_)
  have h := h x2 ex2
  refine lv_istore (lv' := [(6, .int _), (0, .ref (ad_w 0)), (1, .ref (ad_h 0)), (2, .ref (ad_u 0)), (3, .ref (ad_s 0)), (4, .int _), (5, .int _)]) hx hb (kn_dec tX7_rate_t0 8 rfl) hl (by decide) rfl (fun ls hl => ?_)
  refine lv_aload_n hx hb (kn_dec tX7_rate_t0 9 rfl) rfl (lv_at hl 3 rfl) ?_
  refine lv_ifnonnull (tgt := 26) hx hb (kn_dec tX7_rate_t0 10 rfl) (by decide) ?_
  refine lv_aload_n hx hb (kn_dec tX7_rate_t0 15 rfl) rfl (lv_at hl 1 rfl) ?_
  refine kw_getl hx hb hts inX7 hown hK I 0 rfl rfl 0 (by decide) rfl (hts _ q2_73) (kn_dec tX7_rate_t0 16 rfl) rfl ?_
  refine lv_iconst (v := (1)) hx hb (kn_dec tX7_rate_t0 17 rfl) (by decide) ?_
  refine lv_iload hx hb (kn_dec tX7_rate_t0 18 rfl) (lv_at hl 6 rfl) ?_
  refine lv_i2l hx hb (kn_dec tX7_rate_t0 19 rfl) rfl ?_
  refine lv_topl (fun x3 ex3 => ?_)
  have h := h x3 ex3
  refine kw_last hx hb hK I 0 rfl 0 14 (List.mem_of_getElem? (i := 0) rfl) ukWalk_0 (by unfold vp_in; decide) (kn_dec tX7_rate_t0 20 rfl) (fun v_w4 ev_w4 H locs I => ?_)
  have h := h v_w4 ev_w4
  have I : kn_I D tc (kn_A _ s.heap.size) s.heap [(kWalk, ad_w, _), (kHill, ad_h, _), (kRule, ad_u, _), (kState, ad_s, _)] _ _ := I
  refine lv_aload_n hx hb (kn_dec tX7_rate_t0 21 rfl) rfl (lv_at hl 1 rfl) ?_
  refine kw_getl hx hb hts inX7 hown hK I 0 rfl rfl 0 (by decide) rfl (hts _ q2_73) (kn_dec tX7_rate_t0 22 rfl) rfl ?_
  refine lv_iconst (v := (2)) hx hb (kn_dec tX7_rate_t0 23 rfl) (by decide) ?_
  refine lv_aload_n hx hb (kn_dec tX7_rate_t0 24 rfl) rfl (lv_at hl 2 rfl) ?_
  refine kw_getl hx hb hts inX0 hown hK I 1 rfl rfl 5 (by decide) rfl (hts _ q1_134) (kn_dec tX7_rate_t0 25 rfl) rfl ?_
  refine lv_iload hx hb (kn_dec tX7_rate_t0 26 rfl) (lv_at hl 6 rfl) ?_
  obtain ⟨hs5, h⟩ := h
  refine kw_iald hx hb hK I 1 rfl 5 10 (List.mem_of_getElem? (i := 0) rfl) hs5 (kn_dec tX7_rate_t0 27 rfl) ?_
  refine lv_i2l hx hb (kn_dec tX7_rate_t0 28 rfl) rfl ?_
  refine lv_topl (fun x6 ex6 => ?_)
  have h := h x6 ex6
  refine kw_last hx hb hK I 0 rfl 0 14 (List.mem_of_getElem? (i := 0) rfl) ukWalk_0 (by unfold vp_in; decide) (kn_dec tX7_rate_t0 29 rfl) (fun v_w7 ev_w7 H locs I => ?_)
  have h := h v_w7 ev_w7
  have I : kn_I D tc (kn_A _ s.heap.size) s.heap [(kWalk, ad_w, _), (kHill, ad_h, _), (kRule, ad_u, _), (kState, ad_s, _)] _ _ := I
  refine lv_aload_n hx hb (kn_dec tX7_rate_t0 30 rfl) rfl (lv_at hl 1 rfl) ?_
  refine kw_getl hx hb hts inX7 hown hK I 0 rfl rfl 0 (by decide) rfl (hts _ q2_73) (kn_dec tX7_rate_t0 31 rfl) rfl ?_
  refine lv_iconst (v := (3)) hx hb (kn_dec tX7_rate_t0 32 rfl) (by decide) ?_
  refine lv_aload_n hx hb (kn_dec tX7_rate_t0 33 rfl) rfl (lv_at hl 2 rfl) ?_
  refine kw_getl hx hb hts inX0 hown hK I 1 rfl rfl 6 (by decide) rfl (hts _ q1_138) (kn_dec tX7_rate_t0 34 rfl) rfl ?_
  refine lv_iload hx hb (kn_dec tX7_rate_t0 35 rfl) (lv_at hl 6 rfl) ?_
  obtain ⟨hs8, h⟩ := h
  refine kw_iald hx hb hK I 1 rfl 6 10 (List.mem_of_getElem? (i := 1) rfl) hs8 (kn_dec tX7_rate_t0 36 rfl) ?_
  refine lv_i2l hx hb (kn_dec tX7_rate_t0 37 rfl) rfl ?_
  refine lv_topl (fun x9 ex9 => ?_)
  have h := h x9 ex9
  refine kw_last hx hb hK I 0 rfl 0 14 (List.mem_of_getElem? (i := 0) rfl) ukWalk_0 (by unfold vp_in; decide) (kn_dec tX7_rate_t0 38 rfl) (fun v_w10 ev_w10 H locs I => ?_)
  have h := h v_w10 ev_w10
  have I : kn_I D tc (kn_A _ s.heap.size) s.heap [(kWalk, ad_w, _), (kHill, ad_h, _), (kRule, ad_u, _), (kState, ad_s, _)] _ _ := I
  refine lv_aload_n hx hb (kn_dec tX7_rate_t0 39 rfl) rfl (lv_at hl 1 rfl) ?_
  refine kw_getl hx hb hts inX7 hown hK I 0 rfl rfl 0 (by decide) rfl (hts _ q2_73) (kn_dec tX7_rate_t0 40 rfl) rfl ?_
  refine lv_iconst (v := (4)) hx hb (kn_dec tX7_rate_t0 41 rfl) (by decide) ?_
  refine lv_aload_n hx hb (kn_dec tX7_rate_t0 42 rfl) rfl (lv_at hl 2 rfl) ?_
  refine kw_getl hx hb hts inX0 hown hK I 1 rfl rfl 7 (by decide) rfl (hts _ q1_142) (kn_dec tX7_rate_t0 43 rfl) rfl ?_
  refine lv_iload hx hb (kn_dec tX7_rate_t0 44 rfl) (lv_at hl 6 rfl) ?_
  obtain ⟨hs11, h⟩ := h
  refine kw_iald hx hb hK I 1 rfl 7 10 (List.mem_of_getElem? (i := 2) rfl) hs11 (kn_dec tX7_rate_t0 45 rfl) ?_
  refine lv_i2l hx hb (kn_dec tX7_rate_t0 46 rfl) rfl ?_
  refine lv_topl (fun x12 ex12 => ?_)
  have h := h x12 ex12
  refine kw_last hx hb hK I 0 rfl 0 14 (List.mem_of_getElem? (i := 0) rfl) ukWalk_0 (by unfold vp_in; decide) (kn_dec tX7_rate_t0 47 rfl) (fun v_w13 ev_w13 H locs I => ?_)
  have h := h v_w13 ev_w13
  have I : kn_I D tc (kn_A _ s.heap.size) s.heap [(kWalk, ad_w, _), (kHill, ad_h, _), (kRule, ad_u, _), (kState, ad_s, _)] _ _ := I
  refine lv_aload_n hx hb (kn_dec tX7_rate_t0 48 rfl) rfl (lv_at hl 1 rfl) ?_
  refine kw_getl hx hb hts inX7 hown hK I 0 rfl rfl 0 (by decide) rfl (hts _ q2_73) (kn_dec tX7_rate_t0 49 rfl) rfl ?_
  refine lv_iconst (v := (5)) hx hb (kn_dec tX7_rate_t0 50 rfl) (by decide) ?_
  refine lv_aload_n hx hb (kn_dec tX7_rate_t0 51 rfl) rfl (lv_at hl 4 rfl) ?_
  refine kw_getl hx hb hts inX6 hown hK I 3 rfl rfl 3 (by decide) rfl (hts _ q1_230) (kn_dec tX7_rate_t0 52 rfl) rfl ?_
  refine lv_iload hx hb (kn_dec tX7_rate_t0 53 rfl) (lv_at hl 6 rfl) ?_
  obtain ⟨hs14, h⟩ := h
  refine kw_iald hx hb hK I 3 rfl 3 10 (List.mem_of_getElem? (i := 0) rfl) hs14 (kn_dec tX7_rate_t0 54 rfl) ?_
  refine lv_i2l hx hb (kn_dec tX7_rate_t0 55 rfl) rfl ?_
  refine lv_topl (fun x15 ex15 => ?_)
  have h := h x15 ex15
  refine kw_last hx hb hK I 0 rfl 0 14 (List.mem_of_getElem? (i := 0) rfl) ukWalk_0 (by unfold vp_in; decide) (kn_dec tX7_rate_t0 56 rfl) (fun v_w16 ev_w16 H locs I => ?_)
  have h := h v_w16 ev_w16
  have I : kn_I D tc (kn_A _ s.heap.size) s.heap [(kWalk, ad_w, _), (kHill, ad_h, _), (kRule, ad_u, _), (kState, ad_s, _)] _ _ := I
  refine lv_aload_n hx hb (kn_dec tX7_rate_t0 57 rfl) rfl (lv_at hl 1 rfl) ?_
  refine kw_getl hx hb hts inX7 hown hK I 0 rfl rfl 0 (by decide) rfl (hts _ q2_73) (kn_dec tX7_rate_t0 58 rfl) rfl ?_
  refine lv_bipush (v := (7)) hx hb (kn_dec tX7_rate_t0 59 rfl) (by decide) ?_
  refine lv_iload hx hb (kn_dec tX7_rate_t1 0 rfl) (lv_at hl 0 rfl) ?_
  refine lv_i2l hx hb (kn_dec tX7_rate_t1 1 rfl) rfl ?_
  refine lv_topl (fun x17 ex17 => ?_)
  have h := h x17 ex17
  refine kw_last hx hb hK I 0 rfl 0 14 (List.mem_of_getElem? (i := 0) rfl) ukWalk_0 (by unfold vp_in; decide) (kn_dec tX7_rate_t1 2 rfl) (fun v_w18 ev_w18 H locs I => ?_)
  have h := h v_w18 ev_w18
  have I : kn_I D tc (kn_A _ s.heap.size) s.heap [(kWalk, ad_w, _), (kHill, ad_h, _), (kRule, ad_u, _), (kState, ad_s, _)] _ _ := I
  refine lv_aload_n hx hb (kn_dec tX7_rate_t1 3 rfl) rfl (lv_at hl 1 rfl) ?_
  refine kw_getl hx hb hts inX7 hown hK I 0 rfl rfl 0 (by decide) rfl (hts _ q2_73) (kn_dec tX7_rate_t1 4 rfl) rfl ?_
  refine lv_bipush (v := (8)) hx hb (kn_dec tX7_rate_t1 5 rfl) (by decide) ?_
  refine lv_aload_n hx hb (kn_dec tX7_rate_t1 6 rfl) rfl (lv_at hl 2 rfl) ?_
  refine lv_aload_n hx hb (kn_dec tX7_rate_t1 7 rfl) rfl (lv_at hl 4 rfl) ?_
  refine lv_iload hx hb (kn_dec tX7_rate_t1 8 rfl) (lv_at hl 5 rfl) ?_
  refine lv_iload hx hb (kn_dec tX7_rate_t1 9 rfl) (lv_at hl 6 rfl) ?_
  refine kw_calli (wc := [(kHill, ad_h, _), (kState, ad_s, _)]) (wr := [(kWalk, ad_w, _), (kRule, ad_u, _)]) I hA [1, 3] [0, 2] rfl rfl (by decide) (by decide) (kn_runV (As := [.ref (ad_s 0), .int _, .int _]) S0 hK hZ hA I ((ctX0_minutes h).met _) (kn_cwV 3 hts q3_216 q3_217 q3_218 q1_7 q3_219 rfl rfl (by decide +kernel) ⟨(Nat.le_of_ble_eq_true rfl), (Nat.le_of_ble_eq_true rfl)⟩) [1, 3] rfl (by decide) 1 rfl rfl rfl rfl hl.1 rfl (Nat.le_of_ble_eq_true rfl) (kn_dec tX7_rate_t1 10 rfl) ⟨(Nat.le_of_ble_eq_true rfl), (Nat.le_of_ble_eq_true rfl)⟩) (fun r19 u20 H locs h I => ?_)
  have I : kn_I D tc (kn_A _ s.heap.size) s.heap [(kWalk, ad_w, _), (kHill, ad_h, _), (kRule, ad_u, _), (kState, ad_s, _)] _ _ := I.sub [0, 2, 1, 3] (by decide) rfl
  refine lv_i2l hx hb (kn_dec tX7_rate_t1 11 rfl) rfl ?_
  refine lv_topl (fun x21 ex21 => ?_)
  have h := h x21 ex21
  refine kw_last hx hb hK I 0 rfl 0 14 (List.mem_of_getElem? (i := 0) rfl) ukWalk_0 (by unfold vp_in; decide) (kn_dec tX7_rate_t1 12 rfl) (fun v_w22 ev_w22 H locs I => ?_)
  have h := h v_w22 ev_w22
  have I : kn_I D tc (kn_A _ s.heap.size) s.heap [(kWalk, ad_w, _), (kHill, ad_h, _), (kRule, ad_u, _), (kState, ad_s, _)] _ _ := I
  refine lv_aload_n hx hb (kn_dec tX7_rate_t1 13 rfl) rfl (lv_at hl 1 rfl) ?_
  refine kw_getl hx hb hts inX7 hown hK I 0 rfl rfl 0 (by decide) rfl (hts _ q2_73) (kn_dec tX7_rate_t1 14 rfl) rfl ?_
  refine lv_bipush (v := (11)) hx hb (kn_dec tX7_rate_t1 15 rfl) (by decide) ?_
  refine lv_aload_n hx hb (kn_dec tX7_rate_t1 16 rfl) rfl (lv_at hl 4 rfl) ?_
  refine kw_getl hx hb hts inX6 hown hK I 3 rfl rfl 8 (by decide) rfl (hts _ q2_5) (kn_dec tX7_rate_t1 17 rfl) rfl ?_
  refine lv_iload hx hb (kn_dec tX7_rate_t1 18 rfl) (lv_at hl 5 rfl) ?_
  obtain ⟨hs23, h⟩ := h
  refine kw_iald hx hb hK I 3 rfl 8 4 (List.mem_of_getElem? (i := 5) rfl) hs23 (kn_dec tX7_rate_t1 19 rfl) ?_
  refine lv_iload hx hb (kn_dec tX7_rate_t1 20 rfl) (lv_at hl 6 rfl) ?_
  refine lv_ishr hx hb (kn_dec tX7_rate_t1 21 rfl) ?_
  refine lv_iconst (v := (1)) hx hb (kn_dec tX7_rate_t1 22 rfl) (by decide) ?_
  refine lv_iand hx hb (kn_dec tX7_rate_t1 23 rfl) ?_
  refine lv_i2l hx hb (kn_dec tX7_rate_t1 24 rfl) rfl ?_
  refine lv_topl (fun x24 ex24 => ?_)
  have h := h x24 ex24
  refine kw_last hx hb hK I 0 rfl 0 14 (List.mem_of_getElem? (i := 0) rfl) ukWalk_0 (by unfold vp_in; decide) (kn_dec tX7_rate_t1 25 rfl) (fun v_w25 ev_w25 H locs I => ?_)
  have h := h v_w25 ev_w25
  have I : kn_I D tc (kn_A _ s.heap.size) s.heap [(kWalk, ad_w, _), (kHill, ad_h, _), (kRule, ad_u, _), (kState, ad_s, _)] _ _ := I
  refine lv_aload_n hx hb (kn_dec tX7_rate_t1 26 rfl) rfl (lv_at hl 3 rfl) ?_
  refine lv_aload_n hx hb (kn_dec tX7_rate_t1 27 rfl) rfl (lv_at hl 1 rfl) ?_
  refine kw_getl hx hb hts inX7 hown hK I 0 rfl rfl 0 (by decide) rfl (hts _ q2_73) (kn_dec tX7_rate_t1 28 rfl) rfl ?_
  refine kw_calll (wc := [(kRule, ad_u, _), (kWalk, ad_w, _)]) (wr := [(kHill, ad_h, _), (kState, ad_s, _)]) I hA [2, 0] [1, 3] rfl rfl (by decide) (by decide) (kn_runV (As := [.ref (ad_w (0 + 1))]) S0 hK hZ hA I ((ctX3_sum h).met _) (kn_cwV 1 hts q3_223 q3_224 q3_225 q1_5 q3_226 rfl rfl (by decide +kernel) ⟨(Nat.le_of_ble_eq_true rfl), (Nat.le_of_ble_eq_true rfl)⟩) [2, 0] rfl (by decide) 2 rfl rfl rfl rfl hl.1 rfl (Nat.le_of_ble_eq_true rfl) (kn_dec tX7_rate_t1 29 rfl) ⟨(Nat.le_of_ble_eq_true rfl), (Nat.le_of_ble_eq_true rfl)⟩) (fun r27 u28 H locs h I => ?_)
  have I : kn_I D tc (kn_A _ s.heap.size) s.heap [(kWalk, ad_w, _), (kHill, ad_h, _), (kRule, ad_u, _), (kState, ad_s, _)] _ _ := I.sub [3, 0, 2, 1] (by decide) rfl
  exact kw_lret hx hb hr hlocks I (v_w25, u28) rfl h (kn_dec tX7_rate_t1 30 rfl)

/-! X7_look_N -/
abbrev rmX7_look_N : Room := { frames := 4, cells := 0, slots := 0, locals := 113 }
def PX7_look_N_b119 (v_h : OV) (v_s : OV) (K72 : Int32 → Int32 → Int32 → OV → Prop) (post : OV → Prop) (t0 : Int32) (y4 : Int32) (y5 : Int32) (y6 : Int32) (y7 : Int32) (v_w : OV) : Prop := ((y7 = ((-1 : Int32)) → post v_w) ∧ (¬ y7 = ((-1 : Int32)) → (vp_in y4 4 ∧ ((((v_w.1 4) + t0) ≤ (v_h.2.1 13 y4.toNatClampNeg) → (∀ x4 : Int32, x4 = (y5 &&& ((((1 : Int32)) <<< (y7 &&& 31)) ^^^ ((-1 : Int32)))) → (vp_in (v_w.1 3) 10 ∧ (∀ v_w6 : OV, v_w6 = sa v_w 2 (upd (v_w.2.1 2) (v_w.1 3).toNatClampNeg y7) → (∀ x7 : Int32, x7 = ((v_w6.1 3) + ((1 : Int32))) → (∀ v_w8 : OV, v_w8 = si v_w6 3 x7 → (∀ x9 : Int32, x9 = ((v_w8.1 4) + t0) → (∀ v_w10 : OV, v_w10 = si v_w8 4 x9 → ((¬ y7 = (v_s.1 2) → (∀ v_w12 : OV, v_w12 = si v_w10 5 ((0 : Int32)) → (∀ x13 : Int32, x13 = y6 + (1 : Int32) → K72 y4 x4 x13 v_w12))) ∧ (y7 = (v_s.1 2) → (∀ v_w14 : OV, v_w14 = si v_w10 5 ((1 : Int32)) → (∀ x15 : Int32, x15 = y6 + (1 : Int32) → K72 y4 x4 x15 v_w14)))))))))))) ∧ (¬ ((v_w.1 4) + t0) ≤ (v_h.2.1 13 y4.toNatClampNeg) → post v_w)))))
set_option maxRecDepth 100000 in
set_option maxHeartbeats 1000000 in
theorem wX7_look_N_b119 {v_h : OV} {v_s : OV} {K72 : Int32 → Int32 → Int32 → OV → Prop} {post : OV → Prop} {ad_w : Nat → Nat} {ad_h : Nat → Nat} {ad_s : Nat → Nat} (X : kn_X p s m args meth c cX7_look 9 none RX7 kn_all D tc Z (kn_A w0 s.heap.size))   (hK72 : ∀ (H : Heap) (locs : List Loc) (ls : Array Slot) (y4 : Int32) (y5 : Int32) (y6 : Int32) (v_w : OV), kn_I D tc (kn_A w0 s.heap.size) s.heap [(kWalk, ad_w, v_w), (kHill, ad_h, v_h), (kState, ad_s, v_s)] H locs → lv_has ls 9 [(0, .ref (ad_w 0)), (1, .ref (ad_h 0)), (3, .ref (ad_s 0)), (4, .int y4), (5, .int y5), (6, .int y6)] → K72 y4 y5 y6 v_w → W p l e rmX7_look_N s m args below meth c H locs 0 0 (kn_Qv D tc w0 (fun (u : OV) => [(kWalk, ad_w, u), (kHill, ad_h, v_h), (kState, ad_s, v_s)]) (fun (u : OV) => post u) below args s 0 0) (F0 m 72 ls [])) : ∀ (H : Heap) (locs : List Loc) (ls : Array Slot) (t0 : Int32) (y4 : Int32) (y5 : Int32) (y6 : Int32) (y7 : Int32) (v_w : OV), kn_I D tc (kn_A w0 s.heap.size) s.heap [(kWalk, ad_w, v_w), (kHill, ad_h, v_h), (kState, ad_s, v_s)] H locs → lv_has ls 9 [(0, .ref (ad_w 0)), (1, .ref (ad_h 0)), (3, .ref (ad_s 0)), (4, .int y4), (5, .int y5), (6, .int y6), (7, .int y7)] → PX7_look_N_b119 v_h v_s K72 post t0 y4 y5 y6 y7 v_w → W p l e rmX7_look_N s m args below meth c H locs 0 0 (kn_Qv D tc w0 (fun (u : OV) => [(kWalk, ad_w, u), (kHill, ad_h, v_h), (kState, ad_s, v_s)]) (fun (u : OV) => post u) below args s 0 0) (F0 m 119 ls [.int t0]) := by
  obtain ⟨S0, hr, hlocks, hK, hZ, hA⟩ := id X
  obtain ⟨hx, hb, hml, hown, hts⟩ := id S0
  intro H locs ls t0 y4 y5 y6 y7 v_w I hl h
  unfold PX7_look_N_b119 at h
  refine lv_istore (lv' := [(8, .int _), (0, .ref (ad_w 0)), (1, .ref (ad_h 0)), (3, .ref (ad_s 0)), (4, .int _), (5, .int _), (6, .int _), (7, .int _)]) hx hb (kn_dec tX7_look_t1 5 rfl) hl (by decide) rfl (fun ls hl => ?_)
  refine lv_iload hx hb (kn_dec tX7_look_t1 6 rfl) (lv_at hl 7 rfl) ?_
  refine lv_iconst (v := (-1)) hx hb (kn_dec tX7_look_t1 7 rfl) (by decide) ?_
  refine lv_icmp_eq (tgt := 144) hx hb (kn_dec tX7_look_t1 8 rfl) (by decide) (fun c1 => ?_) (fun c1 => ?_)
  · have h := h.1 c1
    exact kw_vret hx hb hr hlocks I _ rfl h (kn_dec tX7_look_t1 18 rfl)
  · have h := h.2 c1
    refine lv_aload_n hx hb (kn_dec tX7_look_t1 9 rfl) rfl (lv_at hl 1 rfl) ?_
    refine kw_geti hx hb hts inX7 hown hK I 0 rfl rfl 4 (by decide) rfl (hts _ q2_79) (kn_dec tX7_look_t1 10 rfl) ?_
    refine lv_iload hx hb (kn_dec tX7_look_t1 11 rfl) (lv_at hl 0 rfl) ?_
    refine lv_iadd hx hb (kn_dec tX7_look_t1 12 rfl) ?_
    refine lv_aload_n hx hb (kn_dec tX7_look_t1 13 rfl) rfl (lv_at hl 2 rfl) ?_
    refine kw_getl hx hb hts inX0 hown hK I 1 rfl rfl 13 (by decide) rfl (hts _ q1_162) (kn_dec tX7_look_t1 14 rfl) rfl ?_
    refine lv_iload hx hb (kn_dec tX7_look_t1 15 rfl) (lv_at hl 4 rfl) ?_
    obtain ⟨hs2, h⟩ := h
    refine kw_iald hx hb hK I 1 rfl 13 4 (List.mem_of_getElem? (i := 5) rfl) hs2 (kn_dec tX7_look_t1 16 rfl) ?_
    refine lv_icmp_le (tgt := 145) hx hb (kn_dec tX7_look_t1 17 rfl) (by decide) (fun c3 => ?_) (fun c3 => ?_)
    · have h := h.1 c3
      refine lv_iload hx hb (kn_dec tX7_look_t1 19 rfl) (lv_at hl 5 rfl) ?_
      refine lv_iconst (v := (1)) hx hb (kn_dec tX7_look_t1 20 rfl) (by decide) ?_
      refine lv_iload hx hb (kn_dec tX7_look_t1 21 rfl) (lv_at hl 7 rfl) ?_
      refine lv_ishl hx hb (kn_dec tX7_look_t1 22 rfl) ?_
      refine lv_iconst (v := (-1)) hx hb (kn_dec tX7_look_t1 23 rfl) (by decide) ?_
      refine lv_ixor hx hb (kn_dec tX7_look_t1 24 rfl) ?_
      refine lv_iand hx hb (kn_dec tX7_look_t1 25 rfl) ?_
      refine lv_topi (fun x4 ex4 => ?_)
      have h := h x4 ex4
      refine lv_istore (lv' := [(5, .int _), (8, .int _), (0, .ref (ad_w 0)), (1, .ref (ad_h 0)), (3, .ref (ad_s 0)), (4, .int _), (6, .int _), (7, .int _)]) hx hb (kn_dec tX7_look_t1 26 rfl) hl (by decide) rfl (fun ls hl => ?_)
      refine lv_aload_n hx hb (kn_dec tX7_look_t1 27 rfl) rfl (lv_at hl 2 rfl) ?_
      refine kw_getl hx hb hts inX7 hown hK I 0 rfl rfl 2 (by decide) rfl (hts _ q2_75) (kn_dec tX7_look_t1 28 rfl) rfl ?_
      refine lv_aload_n hx hb (kn_dec tX7_look_t1 29 rfl) rfl (lv_at hl 2 rfl) ?_
      refine kw_geti hx hb hts inX7 hown hK I 0 rfl rfl 3 (by decide) rfl (hts _ q2_77) (kn_dec tX7_look_t1 30 rfl) ?_
      refine lv_iload hx hb (kn_dec tX7_look_t1 31 rfl) (lv_at hl 7 rfl) ?_
      obtain ⟨hs5, h⟩ := h
      refine kw_iast hx hb hK I 0 rfl 2 10 (List.mem_of_getElem? (i := 2) rfl) ukWalk_2 hs5 (kn_dec tX7_look_t1 32 rfl) (fun v_w6 ev_w6 H locs I => ?_)
      have h := h v_w6 ev_w6
      have I : kn_I D tc (kn_A w0 s.heap.size) s.heap [(kWalk, ad_w, _), (kHill, ad_h, _), (kState, ad_s, _)] _ _ := I
      refine lv_aload_n hx hb (kn_dec tX7_look_t1 33 rfl) rfl (lv_at hl 2 rfl) ?_
      refine lv_dup hx hb (kn_dec tX7_look_t1 34 rfl) rfl ?_
      refine kw_geti hx hb hts inX7 hown hK I 0 rfl rfl 3 (by decide) rfl (hts _ q2_77) (kn_dec tX7_look_t1 35 rfl) ?_
      refine lv_iconst (v := (1)) hx hb (kn_dec tX7_look_t1 36 rfl) (by decide) ?_
      refine lv_iadd hx hb (kn_dec tX7_look_t1 37 rfl) ?_
      refine lv_topi (fun x7 ex7 => ?_)
      have h := h x7 ex7
      refine kw_puti hx hb hts inX7 tyX7 tyX7_ok nmX7 hown hK I 0 rfl rfl 3 (by decide) rfl (hts _ q2_77) rfl rfl rfl (kn_dec tX7_look_t1 38 rfl) (fun v_w8 ev_w8 H locs I => ?_)
      have h := h v_w8 ev_w8
      have I : kn_I D tc (kn_A w0 s.heap.size) s.heap [(kWalk, ad_w, _), (kHill, ad_h, _), (kState, ad_s, _)] _ _ := I
      refine lv_aload_n hx hb (kn_dec tX7_look_t1 39 rfl) rfl (lv_at hl 2 rfl) ?_
      refine lv_dup hx hb (kn_dec tX7_look_t1 40 rfl) rfl ?_
      refine kw_geti hx hb hts inX7 hown hK I 0 rfl rfl 4 (by decide) rfl (hts _ q2_79) (kn_dec tX7_look_t1 41 rfl) ?_
      refine lv_iload hx hb (kn_dec tX7_look_t1 42 rfl) (lv_at hl 1 rfl) ?_
      refine lv_iadd hx hb (kn_dec tX7_look_t1 43 rfl) ?_
      refine lv_topi (fun x9 ex9 => ?_)
      have h := h x9 ex9
      refine kw_puti hx hb hts inX7 tyX7 tyX7_ok nmX7 hown hK I 0 rfl rfl 4 (by decide) rfl (hts _ q2_79) rfl rfl rfl (kn_dec tX7_look_t1 44 rfl) (fun v_w10 ev_w10 H locs I => ?_)
      have h := h v_w10 ev_w10
      have I : kn_I D tc (kn_A w0 s.heap.size) s.heap [(kWalk, ad_w, _), (kHill, ad_h, _), (kState, ad_s, _)] _ _ := I
      refine lv_aload_n hx hb (kn_dec tX7_look_t1 45 rfl) rfl (lv_at hl 2 rfl) ?_
      refine lv_iload hx hb (kn_dec tX7_look_t1 46 rfl) (lv_at hl 7 rfl) ?_
      refine lv_aload_n hx hb (kn_dec tX7_look_t1 47 rfl) rfl (lv_at hl 4 rfl) ?_
      refine kw_geti hx hb hts inX6 hown hK I 2 rfl rfl 2 (by decide) rfl (hts _ q1_226) (kn_dec tX7_look_t1 48 rfl) ?_
      refine lv_icmp_ne (tgt := 202) hx hb (kn_dec tX7_look_t1 49 rfl) (by decide) (fun c11 => ?_) (fun c11 => ?_)
      · have h := h.1 c11
        refine lv_iconst (v := (0)) hx hb (kn_dec tX7_look_t1 52 rfl) (by decide) ?_
        refine kw_puti hx hb hts inX7 tyX7 tyX7_ok nmX7 hown hK I 0 rfl rfl 5 (by decide) rfl (hts _ q2_81) rfl (kn_nz (Or.inl rfl)) (kn_fz (Or.inl rfl)) (kn_dec tX7_look_t1 53 rfl) (fun v_w12 ev_w12 H locs I => ?_)
        have h := h v_w12 ev_w12
        have I : kn_I D tc (kn_A w0 s.heap.size) s.heap [(kWalk, ad_w, _), (kHill, ad_h, _), (kState, ad_s, _)] _ _ := I
        refine kw_iinc (lvf := fun y => [(6, .int y), (5, .int _), (8, .int _), (0, .ref (ad_w 0)), (1, .ref (ad_h 0)), (3, .ref (ad_s 0)), (4, .int _), (7, .int _)]) (nv := (1)) hx hb (kn_dec tX7_look_t1 54 rfl) hl (k := 6) rfl (by decide) (by decide) (fun _ => rfl) (fun x13 ex13 ls hl => ?_)
        have h := h x13 ex13
        refine lv_goto (tgt := 72) hx hb (kn_dec tX7_look_t1 55 rfl) (by decide) ?_
        exact hK72 _ _ _ _ _ _ _  I (lv_sub hl [3, 4, 5, 6, 1, 0] rfl) h
      · have h := h.2 c11
        refine lv_iconst (v := (1)) hx hb (kn_dec tX7_look_t1 50 rfl) (by decide) ?_
        refine lv_goto (tgt := 203) hx hb (kn_dec tX7_look_t1 51 rfl) (by decide) ?_
        refine kw_puti hx hb hts inX7 tyX7 tyX7_ok nmX7 hown hK I 0 rfl rfl 5 (by decide) rfl (hts _ q2_81) rfl (kn_nz (Or.inr rfl)) (kn_fz (Or.inr rfl)) (kn_dec tX7_look_t1 53 rfl) (fun v_w14 ev_w14 H locs I => ?_)
        have h := h v_w14 ev_w14
        have I : kn_I D tc (kn_A w0 s.heap.size) s.heap [(kWalk, ad_w, _), (kHill, ad_h, _), (kState, ad_s, _)] _ _ := I
        refine kw_iinc (lvf := fun y => [(6, .int y), (5, .int _), (8, .int _), (0, .ref (ad_w 0)), (1, .ref (ad_h 0)), (3, .ref (ad_s 0)), (4, .int _), (7, .int _)]) (nv := (1)) hx hb (kn_dec tX7_look_t1 54 rfl) hl (k := 6) rfl (by decide) (by decide) (fun _ => rfl) (fun x15 ex15 ls hl => ?_)
        have h := h x15 ex15
        refine lv_goto (tgt := 72) hx hb (kn_dec tX7_look_t1 55 rfl) (by decide) ?_
        exact hK72 _ _ _ _ _ _ _  I (lv_sub hl [3, 4, 5, 6, 1, 0] rfl) h
    · have h := h.2 c3
      exact kw_vret hx hb hr hlocks I _ rfl h (kn_dec tX7_look_t1 18 rfl)
def PX7_look_N_L72 (v_h : OV) (v_s : OV)  (post : OV → Prop) : Nat → Int32 → Int32 → Int32 → OV → Prop
  | 0, _, _, _, _ => False
  | n + 1, y4, y5, y6, v_w => (((v_h.1 4) ≤ y6 → post v_w) ∧ (¬ (v_h.1 4) ≤ y6 → ((¬ (v_w.1 5) = ((0 : Int32)) → post v_w) ∧ ((v_w.1 5) = ((0 : Int32)) → (PX7_bestOf v_w y5 (v_h.1 4) (fun r3 => ((¬ r3 = ((-1 : Int32)) → (PX0_minutes v_h v_s y4 r3 (fun r6 => PX7_look_N_b119 v_h v_s (PX7_look_N_L72 v_h v_s post n) post r6 y4 y5 y6 r3 v_w))) ∧ (r3 = ((-1 : Int32)) → PX7_look_N_b119 v_h v_s (PX7_look_N_L72 v_h v_s post n) post ((0 : Int32)) y4 y5 y6 r3 v_w))))))))
set_option maxRecDepth 100000 in
set_option maxHeartbeats 1000000 in
theorem wX7_look_N_L72 {v_h : OV} {v_s : OV}  {post : OV → Prop} {ad_w : Nat → Nat} {ad_h : Nat → Nat} {ad_s : Nat → Nat} (X : kn_X p s m args meth c cX7_look 9 none RX7 kn_all D tc Z (kn_A w0 s.heap.size))    : ∀ n : Nat, ∀ (H : Heap) (locs : List Loc) (ls : Array Slot) (y4 : Int32) (y5 : Int32) (y6 : Int32) (v_w : OV), kn_I D tc (kn_A w0 s.heap.size) s.heap [(kWalk, ad_w, v_w), (kHill, ad_h, v_h), (kState, ad_s, v_s)] H locs → lv_has ls 9 [(0, .ref (ad_w 0)), (1, .ref (ad_h 0)), (3, .ref (ad_s 0)), (4, .int y4), (5, .int y5), (6, .int y6)] → PX7_look_N_L72 v_h v_s post n y4 y5 y6 v_w → W p l e rmX7_look_N s m args below meth c H locs 0 0 (kn_Qv D tc w0 (fun (u : OV) => [(kWalk, ad_w, u), (kHill, ad_h, v_h), (kState, ad_s, v_s)]) (fun (u : OV) => post u) below args s 0 0) (F0 m 72 ls []) := by
  obtain ⟨S0, hr, hlocks, hK, hZ, hA⟩ := id X
  obtain ⟨hx, hb, hml, hown, hts⟩ := id S0
  intro n
  induction n with
  | zero =>
    intro H locs ls y4 y5 y6 v_w I hl h
    unfold PX7_look_N_L72 at h
    exact h.elim
  | succ n ih =>
    intro H locs ls y4 y5 y6 v_w I hl h
    unfold PX7_look_N_L72 at h
    refine lv_iload hx hb (kn_dec tX7_look_t0 42 rfl) (lv_at hl 5 rfl) ?_
    refine lv_aload_n hx hb (kn_dec tX7_look_t0 43 rfl) rfl (lv_at hl 1 rfl) ?_
    refine kw_geti hx hb hts inX0 hown hK I 1 rfl rfl 4 (by decide) rfl (hts _ q1_128) (kn_dec tX7_look_t0 44 rfl) ?_
    refine lv_icmp_ge (tgt := 212) hx hb (kn_dec tX7_look_t0 45 rfl) (by decide) (fun c1 => ?_) (fun c1 => ?_)
    · have h := h.1 c1
      exact kw_vret hx hb hr hlocks I _ rfl h (kn_dec tX7_look_t1 56 rfl)
    · have h := h.2 c1
      refine lv_aload_n hx hb (kn_dec tX7_look_t0 46 rfl) rfl (lv_at hl 0 rfl) ?_
      refine kw_geti hx hb hts inX7 hown hK I 0 rfl rfl 5 (by decide) rfl (hts _ q2_81) (kn_dec tX7_look_t0 47 rfl) ?_
      refine lv_if_ne (tgt := 212) hx hb (kn_dec tX7_look_t0 48 rfl) (by decide) (fun c2 => ?_) (fun c2 => ?_)
      · have h := h.1 c2
        exact kw_vret hx hb hr hlocks I _ rfl h (kn_dec tX7_look_t1 56 rfl)
      · have h := h.2 c2
        refine lv_aload_n hx hb (kn_dec tX7_look_t0 49 rfl) rfl (lv_at hl 0 rfl) ?_
        refine lv_iload hx hb (kn_dec tX7_look_t0 50 rfl) (lv_at hl 4 rfl) ?_
        refine lv_aload_n hx hb (kn_dec tX7_look_t0 51 rfl) rfl (lv_at hl 1 rfl) ?_
        refine kw_geti hx hb hts inX0 hown hK I 1 rfl rfl 4 (by decide) rfl (hts _ q1_128) (kn_dec tX7_look_t0 52 rfl) ?_
        refine kw_calli (wc := [(kWalk, ad_w, _)]) (wr := [(kHill, ad_h, _), (kState, ad_s, _)]) I hA [0] [1, 2] rfl rfl (by decide) (by decide) (kn_runV (As := [.int _, .int _]) S0 hK hZ hA I ((ctX7_bestOf h).met _) (kn_cwV 2 hts q3_234 q3_236 q0_19 q1_9 q3_237 rfl rfl (by decide +kernel) ⟨(Nat.le_of_ble_eq_true rfl), (Nat.le_of_ble_eq_true rfl)⟩) [0] rfl (by decide) 0 rfl rfl rfl rfl hl.1 rfl (Nat.le_of_ble_eq_true rfl) (kn_dec tX7_look_t0 53 rfl) ⟨(Nat.le_of_ble_eq_true rfl), (Nat.le_of_ble_eq_true rfl)⟩) (fun r3 u4 H locs h I => ?_)
        have I : kn_I D tc (kn_A w0 s.heap.size) s.heap [(kWalk, ad_w, _), (kHill, ad_h, _), (kState, ad_s, _)] _ _ := I.sub [2, 0, 1] (by decide) rfl
        refine lv_istore (lv' := [(7, .int _), (0, .ref (ad_w 0)), (1, .ref (ad_h 0)), (3, .ref (ad_s 0)), (4, .int _), (5, .int _), (6, .int _)]) hx hb (kn_dec tX7_look_t0 54 rfl) hl (by decide) rfl (fun ls hl => ?_)
        refine lv_iload hx hb (kn_dec tX7_look_t0 55 rfl) (lv_at hl 0 rfl) ?_
        refine lv_iconst (v := (-1)) hx hb (kn_dec tX7_look_t0 56 rfl) (by decide) ?_
        refine lv_icmp_ne (tgt := 110) hx hb (kn_dec tX7_look_t0 57 rfl) (by decide) (fun c5 => ?_) (fun c5 => ?_)
        · have h := h.1 c5
          refine lv_aload_n hx hb (kn_dec tX7_look_t1 0 rfl) rfl (lv_at hl 2 rfl) ?_
          refine lv_aload_n hx hb (kn_dec tX7_look_t1 1 rfl) rfl (lv_at hl 3 rfl) ?_
          refine lv_iload hx hb (kn_dec tX7_look_t1 2 rfl) (lv_at hl 4 rfl) ?_
          refine lv_iload hx hb (kn_dec tX7_look_t1 3 rfl) (lv_at hl 0 rfl) ?_
          refine kw_calli (wc := [(kHill, ad_h, _), (kState, ad_s, _)]) (wr := [(kWalk, ad_w, _)]) I hA [1, 2] [0] rfl rfl (by decide) (by decide) (kn_runV (As := [.ref (ad_s 0), .int _, .int _]) S0 hK hZ hA I ((ctX0_minutes h).met _) (kn_cwV 3 hts q3_216 q3_217 q3_218 q1_7 q3_219 rfl rfl (by decide +kernel) ⟨(Nat.le_of_ble_eq_true rfl), (Nat.le_of_ble_eq_true rfl)⟩) [1, 2] rfl (by decide) 1 rfl rfl rfl rfl hl.1 rfl (Nat.le_of_ble_eq_true rfl) (kn_dec tX7_look_t1 4 rfl) ⟨(Nat.le_of_ble_eq_true rfl), (Nat.le_of_ble_eq_true rfl)⟩) (fun r6 u7 H locs h I => ?_)
          have I : kn_I D tc (kn_A w0 s.heap.size) s.heap [(kWalk, ad_w, _), (kHill, ad_h, _), (kState, ad_s, _)] _ _ := I
          exact wX7_look_N_b119 X ih _ _ _ _ _ _ _ _ _  I (lv_sub hl [1, 2, 3, 4, 5, 6, 0] rfl) h
        · have h := h.2 c5
          refine lv_iconst (v := (0)) hx hb (kn_dec tX7_look_t0 58 rfl) (by decide) ?_
          refine lv_goto (tgt := 119) hx hb (kn_dec tX7_look_t0 59 rfl) (by decide) ?_
          exact wX7_look_N_b119 X ih _ _ _ _ _ _ _ _ _  I (lv_sub hl [1, 2, 3, 4, 5, 6, 0] rfl) h
def PX7_look_N_L11 (v_h : OV) (v_s : OV)  (post : OV → Prop) : Nat → Int32 → Int32 → OV → Prop
  | 0, _, _, _ => False
  | n + 1, y4, y5, v_w => (((v_h.1 4) ≤ y5 → (∀ v_w2 : OV, v_w2 = si v_w 3 ((0 : Int32)) → (∀ v_w3 : OV, v_w3 = si v_w2 4 ((0 : Int32)) → (∀ v_w4 : OV, v_w4 = si v_w3 5 ((0 : Int32)) → (∀ x5 : Int32, x5 = ((((1 : Int32)) <<< ((v_h.1 4) &&& 31)) - ((1 : Int32))) → (∃ n6 : Nat, PX7_look_N_L72 v_h v_s post n6 y4 x5 ((0 : Int32)) v_w4)))))) ∧ (¬ (v_h.1 4) ≤ y5 → (PX7_rate_N v_w v_h v_s y4 y5 (fun r7 => (vp_in y5 10 ∧ (∀ v_w10 : OV, v_w10 = sl v_w 1 (vp_updL (v_w.2.2 1) y5.toNatClampNeg r7) → (∀ x11 : Int32, x11 = y5 + (1 : Int32) → PX7_look_N_L11 v_h v_s post n y4 x11 v_w10)))))))
set_option maxRecDepth 100000 in
set_option maxHeartbeats 1000000 in
theorem wX7_look_N_L11 {v_h : OV} {v_s : OV}  {post : OV → Prop} {ad_w : Nat → Nat} {ad_h : Nat → Nat} {ad_s : Nat → Nat} (X : kn_X p s m args meth c cX7_look 9 none RX7 kn_all D tc Z (kn_A w0 s.heap.size))    : ∀ n : Nat, ∀ (H : Heap) (locs : List Loc) (ls : Array Slot) (y4 : Int32) (y5 : Int32) (v_w : OV), kn_I D tc (kn_A w0 s.heap.size) s.heap [(kWalk, ad_w, v_w), (kHill, ad_h, v_h), (kState, ad_s, v_s)] H locs → lv_has ls 9 [(0, .ref (ad_w 0)), (1, .ref (ad_h 0)), (2, .null), (3, .ref (ad_s 0)), (4, .int y4), (5, .int y5)] → PX7_look_N_L11 v_h v_s post n y4 y5 v_w → W p l e rmX7_look_N s m args below meth c H locs 0 0 (kn_Qv D tc w0 (fun (u : OV) => [(kWalk, ad_w, u), (kHill, ad_h, v_h), (kState, ad_s, v_s)]) (fun (u : OV) => post u) below args s 0 0) (F0 m 11 ls []) := by
  obtain ⟨S0, hr, hlocks, hK, hZ, hA⟩ := id X
  obtain ⟨hx, hb, hml, hown, hts⟩ := id S0
  intro n
  induction n with
  | zero =>
    intro H locs ls y4 y5 v_w I hl h
    unfold PX7_look_N_L11 at h
    exact h.elim
  | succ n ih =>
    intro H locs ls y4 y5 v_w I hl h
    unfold PX7_look_N_L11 at h
    refine lv_iload hx hb (kn_dec tX7_look_t0 7 rfl) (lv_at hl 5 rfl) ?_
    refine lv_aload_n hx hb (kn_dec tX7_look_t0 8 rfl) rfl (lv_at hl 1 rfl) ?_
    refine kw_geti hx hb hts inX0 hown hK I 1 rfl rfl 4 (by decide) rfl (hts _ q1_128) (kn_dec tX7_look_t0 9 rfl) ?_
    refine lv_icmp_ge (tgt := 44) hx hb (kn_dec tX7_look_t0 10 rfl) (by decide) (fun c1 => ?_) (fun c1 => ?_)
    · have h := h.1 c1
      refine lv_aload_n hx hb (kn_dec tX7_look_t0 24 rfl) rfl (lv_at hl 0 rfl) ?_
      refine lv_iconst (v := (0)) hx hb (kn_dec tX7_look_t0 25 rfl) (by decide) ?_
      refine kw_puti hx hb hts inX7 tyX7 tyX7_ok nmX7 hown hK I 0 rfl rfl 3 (by decide) rfl (hts _ q2_77) rfl rfl rfl (kn_dec tX7_look_t0 26 rfl) (fun v_w2 ev_w2 H locs I => ?_)
      have h := h v_w2 ev_w2
      have I : kn_I D tc (kn_A w0 s.heap.size) s.heap [(kWalk, ad_w, _), (kHill, ad_h, _), (kState, ad_s, _)] _ _ := I
      refine lv_aload_n hx hb (kn_dec tX7_look_t0 27 rfl) rfl (lv_at hl 0 rfl) ?_
      refine lv_iconst (v := (0)) hx hb (kn_dec tX7_look_t0 28 rfl) (by decide) ?_
      refine kw_puti hx hb hts inX7 tyX7 tyX7_ok nmX7 hown hK I 0 rfl rfl 4 (by decide) rfl (hts _ q2_79) rfl rfl rfl (kn_dec tX7_look_t0 29 rfl) (fun v_w3 ev_w3 H locs I => ?_)
      have h := h v_w3 ev_w3
      have I : kn_I D tc (kn_A w0 s.heap.size) s.heap [(kWalk, ad_w, _), (kHill, ad_h, _), (kState, ad_s, _)] _ _ := I
      refine lv_aload_n hx hb (kn_dec tX7_look_t0 30 rfl) rfl (lv_at hl 0 rfl) ?_
      refine lv_iconst (v := (0)) hx hb (kn_dec tX7_look_t0 31 rfl) (by decide) ?_
      refine kw_puti hx hb hts inX7 tyX7 tyX7_ok nmX7 hown hK I 0 rfl rfl 5 (by decide) rfl (hts _ q2_81) rfl (kn_nz (Or.inl rfl)) (kn_fz (Or.inl rfl)) (kn_dec tX7_look_t0 32 rfl) (fun v_w4 ev_w4 H locs I => ?_)
      have h := h v_w4 ev_w4
      have I : kn_I D tc (kn_A w0 s.heap.size) s.heap [(kWalk, ad_w, _), (kHill, ad_h, _), (kState, ad_s, _)] _ _ := I
      refine lv_iconst (v := (1)) hx hb (kn_dec tX7_look_t0 33 rfl) (by decide) ?_
      refine lv_aload_n hx hb (kn_dec tX7_look_t0 34 rfl) rfl (lv_at hl 1 rfl) ?_
      refine kw_geti hx hb hts inX0 hown hK I 1 rfl rfl 4 (by decide) rfl (hts _ q1_128) (kn_dec tX7_look_t0 35 rfl) ?_
      refine lv_ishl hx hb (kn_dec tX7_look_t0 36 rfl) ?_
      refine lv_iconst (v := (1)) hx hb (kn_dec tX7_look_t0 37 rfl) (by decide) ?_
      refine lv_isub hx hb (kn_dec tX7_look_t0 38 rfl) ?_
      refine lv_topi (fun x5 ex5 => ?_)
      have h := h x5 ex5
      refine lv_istore (lv' := [(5, .int _), (0, .ref (ad_w 0)), (1, .ref (ad_h 0)), (2, .null), (3, .ref (ad_s 0)), (4, .int _)]) hx hb (kn_dec tX7_look_t0 39 rfl) hl (by decide) rfl (fun ls hl => ?_)
      refine lv_iconst (v := (0)) hx hb (kn_dec tX7_look_t0 40 rfl) (by decide) ?_
      refine lv_istore (lv' := [(6, .int _), (5, .int _), (0, .ref (ad_w 0)), (1, .ref (ad_h 0)), (2, .null), (3, .ref (ad_s 0)), (4, .int _)]) hx hb (kn_dec tX7_look_t0 41 rfl) hl (by decide) rfl (fun ls hl => ?_)
      obtain ⟨n6, h⟩ := h
      exact wX7_look_N_L72 X n6 _ _ _ _ _ _ _  I (lv_sub hl [2, 3, 5, 6, 1, 0] rfl) h
    · have h := h.2 c1
      refine lv_aload_n hx hb (kn_dec tX7_look_t0 11 rfl) rfl (lv_at hl 0 rfl) ?_
      refine kw_getl hx hb hts inX7 hown hK I 0 rfl rfl 1 (by decide) rfl (hts _ q2_74) (kn_dec tX7_look_t0 12 rfl) rfl ?_
      refine lv_iload hx hb (kn_dec tX7_look_t0 13 rfl) (lv_at hl 5 rfl) ?_
      refine lv_aload_n hx hb (kn_dec tX7_look_t0 14 rfl) rfl (lv_at hl 0 rfl) ?_
      refine lv_aload_n hx hb (kn_dec tX7_look_t0 15 rfl) rfl (lv_at hl 1 rfl) ?_
      refine lv_aload_nN hx hb (kn_dec tX7_look_t0 16 rfl) rfl (lv_at hl 2 rfl) ?_
      refine lv_aload_n hx hb (kn_dec tX7_look_t0 17 rfl) rfl (lv_at hl 3 rfl) ?_
      refine lv_iload hx hb (kn_dec tX7_look_t0 18 rfl) (lv_at hl 4 rfl) ?_
      refine lv_iload hx hb (kn_dec tX7_look_t0 19 rfl) (lv_at hl 5 rfl) ?_
      refine kw_calll (wc := [(kWalk, ad_w, _), (kHill, ad_h, _), (kState, ad_s, _)]) (wr := []) I hA [0, 1, 2] [] rfl rfl (by decide) (by decide) (kn_runV (As := [.ref (ad_h 0), .null, .ref (ad_s 0), .int _, .int _]) S0 hK hZ hA I ((ctX7_rate_N h).met _) (kn_cwV 5 hts q3_209 q3_211 q0_17 q1_9 q3_212 rfl rfl (by decide +kernel) ⟨(Nat.le_of_ble_eq_true rfl), (Nat.le_of_ble_eq_true rfl)⟩) [0, 1, 2] rfl (by decide) 0 rfl rfl rfl rfl hl.1 rfl (Nat.le_of_ble_eq_true rfl) (kn_dec tX7_look_t0 20 rfl) ⟨(Nat.le_of_ble_eq_true rfl), (Nat.le_of_ble_eq_true rfl)⟩) (fun r7 u8 H locs h I => ?_)
      have I : kn_I D tc (kn_A w0 s.heap.size) s.heap [(kWalk, ad_w, _), (kHill, ad_h, _), (kState, ad_s, _)] _ _ := I
      obtain ⟨hs9, h⟩ := h
      refine kw_last hx hb hK I 0 rfl 1 10 (List.mem_of_getElem? (i := 1) rfl) ukWalk_1 hs9 (kn_dec tX7_look_t0 21 rfl) (fun v_w10 ev_w10 H locs I => ?_)
      have h := h v_w10 ev_w10
      have I : kn_I D tc (kn_A w0 s.heap.size) s.heap [(kWalk, ad_w, _), (kHill, ad_h, _), (kState, ad_s, _)] _ _ := I
      refine kw_iinc (lvf := fun y => [(5, .int y), (0, .ref (ad_w 0)), (1, .ref (ad_h 0)), (2, .null), (3, .ref (ad_s 0)), (4, .int _)]) (nv := (1)) hx hb (kn_dec tX7_look_t0 22 rfl) hl (k := 5) rfl (by decide) (by decide) (fun _ => rfl) (fun x11 ex11 ls hl => ?_)
      have h := h x11 ex11
      refine lv_goto (tgt := 11) hx hb (kn_dec tX7_look_t0 23 rfl) (by decide) ?_
      exact ih _ _ _ _ _ _  I (lv_sub hl [1, 2, 3, 4, 5, 0] rfl) h
def PX7_look_N  (v_w : OV) (v_h : OV) (v_s : OV) (a4 : Int32) (post : OV → Prop) : Prop := (PX7_setSeekerWords v_w v_h v_s a4 (fun v_w1 => (∃ n3 : Nat, PX7_look_N_L11 v_h v_s post n3 a4 ((0 : Int32)) v_w1)))
set_option maxRecDepth 100000 in
set_option maxHeartbeats 1000000 in
theorem ctX7_look_N {l : Launch} {D : va_G} {tc : Nat → ClassId} {Z : (Nat → Nat) × (Nat → Nat)}  {ad_w : Nat → Nat} {ad_h : Nat → Nat} {ad_s : Nat → Nat} {v_w : OV} {v_h : OV} {v_s : OV} {a4 : Int32}    {post : OV → Prop} (h : PX7_look_N  v_w v_h v_s a4 post) : CTv l D tc Z yX7_look (Cond.code yX7_look cX7_look 9 none :: kn_all) rmX7_look_N 0 0 [.ref (ad_w 0), .ref (ad_h 0), .null, .ref (ad_s 0), .int a4] [(kWalk, ad_w, v_w), (kHill, ad_h, v_h), (kState, ad_s, v_s)] (fun (u : OV) => [(kWalk, ad_w, u), (kHill, ad_h, v_h), (kState, ad_s, v_s)]) (fun (u : OV) => post u) := by
  refine kn_ofv (cc := cX7_look) (nL := 9) (ret := none) (lv := [(0, .ref (ad_w 0)), (1, .ref (ad_h 0)), (2, .null), (3, .ref (ad_s 0)), (4, .int a4)]) (by decide) (Nat.le_of_ble_eq_true rfl) rfl (fun p e s m below meth c ls X I hl _ => ?_)
  obtain ⟨S0, hr, hlocks, hK, hZ, hA⟩ := id X
  obtain ⟨hx, hb, hml, hown, hts⟩ := id S0
  unfold PX7_look_N at h
  refine lv_aload_n hx hb (kn_dec tX7_look_t0 0 rfl) rfl (lv_at hl 0 rfl) ?_
  refine lv_aload_n hx hb (kn_dec tX7_look_t0 1 rfl) rfl (lv_at hl 1 rfl) ?_
  refine lv_aload_n hx hb (kn_dec tX7_look_t0 2 rfl) rfl (lv_at hl 3 rfl) ?_
  refine lv_iload hx hb (kn_dec tX7_look_t0 3 rfl) (lv_at hl 4 rfl) ?_
  refine kw_callv (wc := [(kWalk, ad_w, _), (kHill, ad_h, _), (kState, ad_s, _)]) (wr := []) I hA [0, 1, 2] [] rfl rfl (by decide) (by decide) (kn_runV (As := [.ref (ad_h 0), .ref (ad_s 0), .int _]) S0 hK hZ hA I ((ctX7_setSeekerWords h).met _) (kn_cwV 3 hts q3_191 q3_193 q0_16 q1_9 q3_194 rfl rfl (by decide +kernel) ⟨(Nat.le_of_ble_eq_true rfl), (Nat.le_of_ble_eq_true rfl)⟩) [0, 1, 2] rfl (by decide) 0 rfl rfl rfl rfl hl.1 rfl (Nat.le_of_ble_eq_true rfl) (kn_dec tX7_look_t0 4 rfl) ⟨(Nat.le_of_ble_eq_true rfl), (Nat.le_of_ble_eq_true rfl)⟩) (fun u2 H locs h I => ?_)
  have I : kn_I D tc (kn_A _ s.heap.size) s.heap [(kWalk, ad_w, _), (kHill, ad_h, _), (kState, ad_s, _)] _ _ := I
  refine lv_iconst (v := (0)) hx hb (kn_dec tX7_look_t0 5 rfl) (by decide) ?_
  refine lv_istore (lv' := [(5, .int _), (0, .ref (ad_w 0)), (1, .ref (ad_h 0)), (2, .null), (3, .ref (ad_s 0)), (4, .int _)]) hx hb (kn_dec tX7_look_t0 6 rfl) hl (by decide) rfl (fun ls hl => ?_)
  obtain ⟨n3, h⟩ := h
  exact wX7_look_N_L11 X n3 _ _ _ _ _ _  I (lv_sub hl [1, 2, 3, 4, 5, 0] rfl) h

/-! X7_look_R -/
abbrev rmX7_look_R : Room := { frames := 4, cells := 0, slots := 0, locals := 113 }
def PX7_look_R_b119 (v_h : OV) (v_s : OV) (K72 : Int32 → Int32 → Int32 → OV → OV → Prop) (post : OV → OV → Prop) (t0 : Int32) (y4 : Int32) (y5 : Int32) (y6 : Int32) (y7 : Int32) (v_w : OV) (v_u : OV) : Prop := ((y7 = ((-1 : Int32)) → post v_w v_u) ∧ (¬ y7 = ((-1 : Int32)) → (vp_in y4 4 ∧ ((((v_w.1 4) + t0) ≤ (v_h.2.1 13 y4.toNatClampNeg) → (∀ x4 : Int32, x4 = (y5 &&& ((((1 : Int32)) <<< (y7 &&& 31)) ^^^ ((-1 : Int32)))) → (vp_in (v_w.1 3) 10 ∧ (∀ v_w6 : OV, v_w6 = sa v_w 2 (upd (v_w.2.1 2) (v_w.1 3).toNatClampNeg y7) → (∀ x7 : Int32, x7 = ((v_w6.1 3) + ((1 : Int32))) → (∀ v_w8 : OV, v_w8 = si v_w6 3 x7 → (∀ x9 : Int32, x9 = ((v_w8.1 4) + t0) → (∀ v_w10 : OV, v_w10 = si v_w8 4 x9 → ((¬ y7 = (v_s.1 2) → (∀ v_w12 : OV, v_w12 = si v_w10 5 ((0 : Int32)) → (∀ x13 : Int32, x13 = y6 + (1 : Int32) → K72 y4 x4 x13 v_w12 v_u))) ∧ (y7 = (v_s.1 2) → (∀ v_w14 : OV, v_w14 = si v_w10 5 ((1 : Int32)) → (∀ x15 : Int32, x15 = y6 + (1 : Int32) → K72 y4 x4 x15 v_w14 v_u)))))))))))) ∧ (¬ ((v_w.1 4) + t0) ≤ (v_h.2.1 13 y4.toNatClampNeg) → post v_w v_u)))))
set_option maxRecDepth 100000 in
set_option maxHeartbeats 1000000 in
theorem wX7_look_R_b119 {v_h : OV} {v_s : OV} {K72 : Int32 → Int32 → Int32 → OV → OV → Prop} {post : OV → OV → Prop} {ad_w : Nat → Nat} {ad_h : Nat → Nat} {ad_u : Nat → Nat} {ad_s : Nat → Nat} (X : kn_X p s m args meth c cX7_look 9 none RX7 kn_all D tc Z (kn_A w0 s.heap.size))   (hK72 : ∀ (H : Heap) (locs : List Loc) (ls : Array Slot) (y4 : Int32) (y5 : Int32) (y6 : Int32) (v_w : OV) (v_u : OV), kn_I D tc (kn_A w0 s.heap.size) s.heap [(kWalk, ad_w, v_w), (kHill, ad_h, v_h), (kRule, ad_u, v_u), (kState, ad_s, v_s)] H locs → lv_has ls 9 [(0, .ref (ad_w 0)), (1, .ref (ad_h 0)), (3, .ref (ad_s 0)), (4, .int y4), (5, .int y5), (6, .int y6)] → K72 y4 y5 y6 v_w v_u → W p l e rmX7_look_R s m args below meth c H locs 0 0 (kn_Qv D tc w0 (fun (u : OV × OV) => [(kWalk, ad_w, u.1), (kHill, ad_h, v_h), (kRule, ad_u, u.2), (kState, ad_s, v_s)]) (fun (u : OV × OV) => post u.1 u.2) below args s 0 0) (F0 m 72 ls [])) : ∀ (H : Heap) (locs : List Loc) (ls : Array Slot) (t0 : Int32) (y4 : Int32) (y5 : Int32) (y6 : Int32) (y7 : Int32) (v_w : OV) (v_u : OV), kn_I D tc (kn_A w0 s.heap.size) s.heap [(kWalk, ad_w, v_w), (kHill, ad_h, v_h), (kRule, ad_u, v_u), (kState, ad_s, v_s)] H locs → lv_has ls 9 [(0, .ref (ad_w 0)), (1, .ref (ad_h 0)), (3, .ref (ad_s 0)), (4, .int y4), (5, .int y5), (6, .int y6), (7, .int y7)] → PX7_look_R_b119 v_h v_s K72 post t0 y4 y5 y6 y7 v_w v_u → W p l e rmX7_look_R s m args below meth c H locs 0 0 (kn_Qv D tc w0 (fun (u : OV × OV) => [(kWalk, ad_w, u.1), (kHill, ad_h, v_h), (kRule, ad_u, u.2), (kState, ad_s, v_s)]) (fun (u : OV × OV) => post u.1 u.2) below args s 0 0) (F0 m 119 ls [.int t0]) := by
  obtain ⟨S0, hr, hlocks, hK, hZ, hA⟩ := id X
  obtain ⟨hx, hb, hml, hown, hts⟩ := id S0
  intro H locs ls t0 y4 y5 y6 y7 v_w v_u I hl h
  unfold PX7_look_R_b119 at h
  refine lv_istore (lv' := [(8, .int _), (0, .ref (ad_w 0)), (1, .ref (ad_h 0)), (3, .ref (ad_s 0)), (4, .int _), (5, .int _), (6, .int _), (7, .int _)]) hx hb (kn_dec tX7_look_t1 5 rfl) hl (by decide) rfl (fun ls hl => ?_)
  refine lv_iload hx hb (kn_dec tX7_look_t1 6 rfl) (lv_at hl 7 rfl) ?_
  refine lv_iconst (v := (-1)) hx hb (kn_dec tX7_look_t1 7 rfl) (by decide) ?_
  refine lv_icmp_eq (tgt := 144) hx hb (kn_dec tX7_look_t1 8 rfl) (by decide) (fun c1 => ?_) (fun c1 => ?_)
  · have h := h.1 c1
    exact kw_vret hx hb hr hlocks I (v_w, v_u) rfl h (kn_dec tX7_look_t1 18 rfl)
  · have h := h.2 c1
    refine lv_aload_n hx hb (kn_dec tX7_look_t1 9 rfl) rfl (lv_at hl 1 rfl) ?_
    refine kw_geti hx hb hts inX7 hown hK I 0 rfl rfl 4 (by decide) rfl (hts _ q2_79) (kn_dec tX7_look_t1 10 rfl) ?_
    refine lv_iload hx hb (kn_dec tX7_look_t1 11 rfl) (lv_at hl 0 rfl) ?_
    refine lv_iadd hx hb (kn_dec tX7_look_t1 12 rfl) ?_
    refine lv_aload_n hx hb (kn_dec tX7_look_t1 13 rfl) rfl (lv_at hl 2 rfl) ?_
    refine kw_getl hx hb hts inX0 hown hK I 1 rfl rfl 13 (by decide) rfl (hts _ q1_162) (kn_dec tX7_look_t1 14 rfl) rfl ?_
    refine lv_iload hx hb (kn_dec tX7_look_t1 15 rfl) (lv_at hl 4 rfl) ?_
    obtain ⟨hs2, h⟩ := h
    refine kw_iald hx hb hK I 1 rfl 13 4 (List.mem_of_getElem? (i := 5) rfl) hs2 (kn_dec tX7_look_t1 16 rfl) ?_
    refine lv_icmp_le (tgt := 145) hx hb (kn_dec tX7_look_t1 17 rfl) (by decide) (fun c3 => ?_) (fun c3 => ?_)
    · have h := h.1 c3
      refine lv_iload hx hb (kn_dec tX7_look_t1 19 rfl) (lv_at hl 5 rfl) ?_
      refine lv_iconst (v := (1)) hx hb (kn_dec tX7_look_t1 20 rfl) (by decide) ?_
      refine lv_iload hx hb (kn_dec tX7_look_t1 21 rfl) (lv_at hl 7 rfl) ?_
      refine lv_ishl hx hb (kn_dec tX7_look_t1 22 rfl) ?_
      refine lv_iconst (v := (-1)) hx hb (kn_dec tX7_look_t1 23 rfl) (by decide) ?_
      refine lv_ixor hx hb (kn_dec tX7_look_t1 24 rfl) ?_
      refine lv_iand hx hb (kn_dec tX7_look_t1 25 rfl) ?_
      refine lv_topi (fun x4 ex4 => ?_)
      have h := h x4 ex4
      refine lv_istore (lv' := [(5, .int _), (8, .int _), (0, .ref (ad_w 0)), (1, .ref (ad_h 0)), (3, .ref (ad_s 0)), (4, .int _), (6, .int _), (7, .int _)]) hx hb (kn_dec tX7_look_t1 26 rfl) hl (by decide) rfl (fun ls hl => ?_)
      refine lv_aload_n hx hb (kn_dec tX7_look_t1 27 rfl) rfl (lv_at hl 2 rfl) ?_
      refine kw_getl hx hb hts inX7 hown hK I 0 rfl rfl 2 (by decide) rfl (hts _ q2_75) (kn_dec tX7_look_t1 28 rfl) rfl ?_
      refine lv_aload_n hx hb (kn_dec tX7_look_t1 29 rfl) rfl (lv_at hl 2 rfl) ?_
      refine kw_geti hx hb hts inX7 hown hK I 0 rfl rfl 3 (by decide) rfl (hts _ q2_77) (kn_dec tX7_look_t1 30 rfl) ?_
      refine lv_iload hx hb (kn_dec tX7_look_t1 31 rfl) (lv_at hl 7 rfl) ?_
      obtain ⟨hs5, h⟩ := h
      refine kw_iast hx hb hK I 0 rfl 2 10 (List.mem_of_getElem? (i := 2) rfl) ukWalk_2 hs5 (kn_dec tX7_look_t1 32 rfl) (fun v_w6 ev_w6 H locs I => ?_)
      have h := h v_w6 ev_w6
      have I : kn_I D tc (kn_A w0 s.heap.size) s.heap [(kWalk, ad_w, _), (kHill, ad_h, _), (kRule, ad_u, _), (kState, ad_s, _)] _ _ := I
      refine lv_aload_n hx hb (kn_dec tX7_look_t1 33 rfl) rfl (lv_at hl 2 rfl) ?_
      refine lv_dup hx hb (kn_dec tX7_look_t1 34 rfl) rfl ?_
      refine kw_geti hx hb hts inX7 hown hK I 0 rfl rfl 3 (by decide) rfl (hts _ q2_77) (kn_dec tX7_look_t1 35 rfl) ?_
      refine lv_iconst (v := (1)) hx hb (kn_dec tX7_look_t1 36 rfl) (by decide) ?_
      refine lv_iadd hx hb (kn_dec tX7_look_t1 37 rfl) ?_
      refine lv_topi (fun x7 ex7 => ?_)
      have h := h x7 ex7
      refine kw_puti hx hb hts inX7 tyX7 tyX7_ok nmX7 hown hK I 0 rfl rfl 3 (by decide) rfl (hts _ q2_77) rfl rfl rfl (kn_dec tX7_look_t1 38 rfl) (fun v_w8 ev_w8 H locs I => ?_)
      have h := h v_w8 ev_w8
      have I : kn_I D tc (kn_A w0 s.heap.size) s.heap [(kWalk, ad_w, _), (kHill, ad_h, _), (kRule, ad_u, _), (kState, ad_s, _)] _ _ := I
      refine lv_aload_n hx hb (kn_dec tX7_look_t1 39 rfl) rfl (lv_at hl 2 rfl) ?_
      refine lv_dup hx hb (kn_dec tX7_look_t1 40 rfl) rfl ?_
      refine kw_geti hx hb hts inX7 hown hK I 0 rfl rfl 4 (by decide) rfl (hts _ q2_79) (kn_dec tX7_look_t1 41 rfl) ?_
      refine lv_iload hx hb (kn_dec tX7_look_t1 42 rfl) (lv_at hl 1 rfl) ?_
      refine lv_iadd hx hb (kn_dec tX7_look_t1 43 rfl) ?_
      refine lv_topi (fun x9 ex9 => ?_)
      have h := h x9 ex9
      refine kw_puti hx hb hts inX7 tyX7 tyX7_ok nmX7 hown hK I 0 rfl rfl 4 (by decide) rfl (hts _ q2_79) rfl rfl rfl (kn_dec tX7_look_t1 44 rfl) (fun v_w10 ev_w10 H locs I => ?_)
      have h := h v_w10 ev_w10
      have I : kn_I D tc (kn_A w0 s.heap.size) s.heap [(kWalk, ad_w, _), (kHill, ad_h, _), (kRule, ad_u, _), (kState, ad_s, _)] _ _ := I
      refine lv_aload_n hx hb (kn_dec tX7_look_t1 45 rfl) rfl (lv_at hl 2 rfl) ?_
      refine lv_iload hx hb (kn_dec tX7_look_t1 46 rfl) (lv_at hl 7 rfl) ?_
      refine lv_aload_n hx hb (kn_dec tX7_look_t1 47 rfl) rfl (lv_at hl 4 rfl) ?_
      refine kw_geti hx hb hts inX6 hown hK I 3 rfl rfl 2 (by decide) rfl (hts _ q1_226) (kn_dec tX7_look_t1 48 rfl) ?_
      refine lv_icmp_ne (tgt := 202) hx hb (kn_dec tX7_look_t1 49 rfl) (by decide) (fun c11 => ?_) (fun c11 => ?_)
      · have h := h.1 c11
        refine lv_iconst (v := (0)) hx hb (kn_dec tX7_look_t1 52 rfl) (by decide) ?_
        refine kw_puti hx hb hts inX7 tyX7 tyX7_ok nmX7 hown hK I 0 rfl rfl 5 (by decide) rfl (hts _ q2_81) rfl (kn_nz (Or.inl rfl)) (kn_fz (Or.inl rfl)) (kn_dec tX7_look_t1 53 rfl) (fun v_w12 ev_w12 H locs I => ?_)
        have h := h v_w12 ev_w12
        have I : kn_I D tc (kn_A w0 s.heap.size) s.heap [(kWalk, ad_w, _), (kHill, ad_h, _), (kRule, ad_u, _), (kState, ad_s, _)] _ _ := I
        refine kw_iinc (lvf := fun y => [(6, .int y), (5, .int _), (8, .int _), (0, .ref (ad_w 0)), (1, .ref (ad_h 0)), (3, .ref (ad_s 0)), (4, .int _), (7, .int _)]) (nv := (1)) hx hb (kn_dec tX7_look_t1 54 rfl) hl (k := 6) rfl (by decide) (by decide) (fun _ => rfl) (fun x13 ex13 ls hl => ?_)
        have h := h x13 ex13
        refine lv_goto (tgt := 72) hx hb (kn_dec tX7_look_t1 55 rfl) (by decide) ?_
        exact hK72 _ _ _ _ _ _ _ _  I (lv_sub hl [3, 4, 5, 6, 1, 0] rfl) h
      · have h := h.2 c11
        refine lv_iconst (v := (1)) hx hb (kn_dec tX7_look_t1 50 rfl) (by decide) ?_
        refine lv_goto (tgt := 203) hx hb (kn_dec tX7_look_t1 51 rfl) (by decide) ?_
        refine kw_puti hx hb hts inX7 tyX7 tyX7_ok nmX7 hown hK I 0 rfl rfl 5 (by decide) rfl (hts _ q2_81) rfl (kn_nz (Or.inr rfl)) (kn_fz (Or.inr rfl)) (kn_dec tX7_look_t1 53 rfl) (fun v_w14 ev_w14 H locs I => ?_)
        have h := h v_w14 ev_w14
        have I : kn_I D tc (kn_A w0 s.heap.size) s.heap [(kWalk, ad_w, _), (kHill, ad_h, _), (kRule, ad_u, _), (kState, ad_s, _)] _ _ := I
        refine kw_iinc (lvf := fun y => [(6, .int y), (5, .int _), (8, .int _), (0, .ref (ad_w 0)), (1, .ref (ad_h 0)), (3, .ref (ad_s 0)), (4, .int _), (7, .int _)]) (nv := (1)) hx hb (kn_dec tX7_look_t1 54 rfl) hl (k := 6) rfl (by decide) (by decide) (fun _ => rfl) (fun x15 ex15 ls hl => ?_)
        have h := h x15 ex15
        refine lv_goto (tgt := 72) hx hb (kn_dec tX7_look_t1 55 rfl) (by decide) ?_
        exact hK72 _ _ _ _ _ _ _ _  I (lv_sub hl [3, 4, 5, 6, 1, 0] rfl) h
    · have h := h.2 c3
      exact kw_vret hx hb hr hlocks I (v_w, v_u) rfl h (kn_dec tX7_look_t1 18 rfl)
def PX7_look_R_L72 (v_h : OV) (v_s : OV)  (post : OV → OV → Prop) : Nat → Int32 → Int32 → Int32 → OV → OV → Prop
  | 0, _, _, _, _, _ => False
  | n + 1, y4, y5, y6, v_w, v_u => (((v_h.1 4) ≤ y6 → post v_w v_u) ∧ (¬ (v_h.1 4) ≤ y6 → ((¬ (v_w.1 5) = ((0 : Int32)) → post v_w v_u) ∧ ((v_w.1 5) = ((0 : Int32)) → (PX7_bestOf v_w y5 (v_h.1 4) (fun r3 => ((¬ r3 = ((-1 : Int32)) → (PX0_minutes v_h v_s y4 r3 (fun r6 => PX7_look_R_b119 v_h v_s (PX7_look_R_L72 v_h v_s post n) post r6 y4 y5 y6 r3 v_w v_u))) ∧ (r3 = ((-1 : Int32)) → PX7_look_R_b119 v_h v_s (PX7_look_R_L72 v_h v_s post n) post ((0 : Int32)) y4 y5 y6 r3 v_w v_u))))))))
set_option maxRecDepth 100000 in
set_option maxHeartbeats 1000000 in
theorem wX7_look_R_L72 {v_h : OV} {v_s : OV}  {post : OV → OV → Prop} {ad_w : Nat → Nat} {ad_h : Nat → Nat} {ad_u : Nat → Nat} {ad_s : Nat → Nat} (X : kn_X p s m args meth c cX7_look 9 none RX7 kn_all D tc Z (kn_A w0 s.heap.size))    : ∀ n : Nat, ∀ (H : Heap) (locs : List Loc) (ls : Array Slot) (y4 : Int32) (y5 : Int32) (y6 : Int32) (v_w : OV) (v_u : OV), kn_I D tc (kn_A w0 s.heap.size) s.heap [(kWalk, ad_w, v_w), (kHill, ad_h, v_h), (kRule, ad_u, v_u), (kState, ad_s, v_s)] H locs → lv_has ls 9 [(0, .ref (ad_w 0)), (1, .ref (ad_h 0)), (3, .ref (ad_s 0)), (4, .int y4), (5, .int y5), (6, .int y6)] → PX7_look_R_L72 v_h v_s post n y4 y5 y6 v_w v_u → W p l e rmX7_look_R s m args below meth c H locs 0 0 (kn_Qv D tc w0 (fun (u : OV × OV) => [(kWalk, ad_w, u.1), (kHill, ad_h, v_h), (kRule, ad_u, u.2), (kState, ad_s, v_s)]) (fun (u : OV × OV) => post u.1 u.2) below args s 0 0) (F0 m 72 ls []) := by
  obtain ⟨S0, hr, hlocks, hK, hZ, hA⟩ := id X
  obtain ⟨hx, hb, hml, hown, hts⟩ := id S0
  intro n
  induction n with
  | zero =>
    intro H locs ls y4 y5 y6 v_w v_u I hl h
    unfold PX7_look_R_L72 at h
    exact h.elim
  | succ n ih =>
    intro H locs ls y4 y5 y6 v_w v_u I hl h
    unfold PX7_look_R_L72 at h
    refine lv_iload hx hb (kn_dec tX7_look_t0 42 rfl) (lv_at hl 5 rfl) ?_
    refine lv_aload_n hx hb (kn_dec tX7_look_t0 43 rfl) rfl (lv_at hl 1 rfl) ?_
    refine kw_geti hx hb hts inX0 hown hK I 1 rfl rfl 4 (by decide) rfl (hts _ q1_128) (kn_dec tX7_look_t0 44 rfl) ?_
    refine lv_icmp_ge (tgt := 212) hx hb (kn_dec tX7_look_t0 45 rfl) (by decide) (fun c1 => ?_) (fun c1 => ?_)
    · have h := h.1 c1
      exact kw_vret hx hb hr hlocks I (v_w, v_u) rfl h (kn_dec tX7_look_t1 56 rfl)
    · have h := h.2 c1
      refine lv_aload_n hx hb (kn_dec tX7_look_t0 46 rfl) rfl (lv_at hl 0 rfl) ?_
      refine kw_geti hx hb hts inX7 hown hK I 0 rfl rfl 5 (by decide) rfl (hts _ q2_81) (kn_dec tX7_look_t0 47 rfl) ?_
      refine lv_if_ne (tgt := 212) hx hb (kn_dec tX7_look_t0 48 rfl) (by decide) (fun c2 => ?_) (fun c2 => ?_)
      · have h := h.1 c2
        exact kw_vret hx hb hr hlocks I (v_w, v_u) rfl h (kn_dec tX7_look_t1 56 rfl)
      · have h := h.2 c2
        refine lv_aload_n hx hb (kn_dec tX7_look_t0 49 rfl) rfl (lv_at hl 0 rfl) ?_
        refine lv_iload hx hb (kn_dec tX7_look_t0 50 rfl) (lv_at hl 4 rfl) ?_
        refine lv_aload_n hx hb (kn_dec tX7_look_t0 51 rfl) rfl (lv_at hl 1 rfl) ?_
        refine kw_geti hx hb hts inX0 hown hK I 1 rfl rfl 4 (by decide) rfl (hts _ q1_128) (kn_dec tX7_look_t0 52 rfl) ?_
        refine kw_calli (wc := [(kWalk, ad_w, _)]) (wr := [(kHill, ad_h, _), (kRule, ad_u, _), (kState, ad_s, _)]) I hA [0] [1, 2, 3] rfl rfl (by decide) (by decide) (kn_runV (As := [.int _, .int _]) S0 hK hZ hA I ((ctX7_bestOf h).met _) (kn_cwV 2 hts q3_234 q3_236 q0_19 q1_9 q3_237 rfl rfl (by decide +kernel) ⟨(Nat.le_of_ble_eq_true rfl), (Nat.le_of_ble_eq_true rfl)⟩) [0] rfl (by decide) 0 rfl rfl rfl rfl hl.1 rfl (Nat.le_of_ble_eq_true rfl) (kn_dec tX7_look_t0 53 rfl) ⟨(Nat.le_of_ble_eq_true rfl), (Nat.le_of_ble_eq_true rfl)⟩) (fun r3 u4 H locs h I => ?_)
        have I : kn_I D tc (kn_A w0 s.heap.size) s.heap [(kWalk, ad_w, _), (kHill, ad_h, _), (kRule, ad_u, _), (kState, ad_s, _)] _ _ := I.sub [3, 0, 1, 2] (by decide) rfl
        refine lv_istore (lv' := [(7, .int _), (0, .ref (ad_w 0)), (1, .ref (ad_h 0)), (3, .ref (ad_s 0)), (4, .int _), (5, .int _), (6, .int _)]) hx hb (kn_dec tX7_look_t0 54 rfl) hl (by decide) rfl (fun ls hl => ?_)
        refine lv_iload hx hb (kn_dec tX7_look_t0 55 rfl) (lv_at hl 0 rfl) ?_
        refine lv_iconst (v := (-1)) hx hb (kn_dec tX7_look_t0 56 rfl) (by decide) ?_
        refine lv_icmp_ne (tgt := 110) hx hb (kn_dec tX7_look_t0 57 rfl) (by decide) (fun c5 => ?_) (fun c5 => ?_)
        · have h := h.1 c5
          refine lv_aload_n hx hb (kn_dec tX7_look_t1 0 rfl) rfl (lv_at hl 2 rfl) ?_
          refine lv_aload_n hx hb (kn_dec tX7_look_t1 1 rfl) rfl (lv_at hl 3 rfl) ?_
          refine lv_iload hx hb (kn_dec tX7_look_t1 2 rfl) (lv_at hl 4 rfl) ?_
          refine lv_iload hx hb (kn_dec tX7_look_t1 3 rfl) (lv_at hl 0 rfl) ?_
          refine kw_calli (wc := [(kHill, ad_h, _), (kState, ad_s, _)]) (wr := [(kWalk, ad_w, _), (kRule, ad_u, _)]) I hA [1, 3] [0, 2] rfl rfl (by decide) (by decide) (kn_runV (As := [.ref (ad_s 0), .int _, .int _]) S0 hK hZ hA I ((ctX0_minutes h).met _) (kn_cwV 3 hts q3_216 q3_217 q3_218 q1_7 q3_219 rfl rfl (by decide +kernel) ⟨(Nat.le_of_ble_eq_true rfl), (Nat.le_of_ble_eq_true rfl)⟩) [1, 3] rfl (by decide) 1 rfl rfl rfl rfl hl.1 rfl (Nat.le_of_ble_eq_true rfl) (kn_dec tX7_look_t1 4 rfl) ⟨(Nat.le_of_ble_eq_true rfl), (Nat.le_of_ble_eq_true rfl)⟩) (fun r6 u7 H locs h I => ?_)
          have I : kn_I D tc (kn_A w0 s.heap.size) s.heap [(kWalk, ad_w, _), (kHill, ad_h, _), (kRule, ad_u, _), (kState, ad_s, _)] _ _ := I.sub [0, 2, 1, 3] (by decide) rfl
          exact wX7_look_R_b119 X ih _ _ _ _ _ _ _ _ _ _  I (lv_sub hl [1, 2, 3, 4, 5, 6, 0] rfl) h
        · have h := h.2 c5
          refine lv_iconst (v := (0)) hx hb (kn_dec tX7_look_t0 58 rfl) (by decide) ?_
          refine lv_goto (tgt := 119) hx hb (kn_dec tX7_look_t0 59 rfl) (by decide) ?_
          exact wX7_look_R_b119 X ih _ _ _ _ _ _ _ _ _ _  I (lv_sub hl [1, 2, 3, 4, 5, 6, 0] rfl) h
def PX7_look_R_L11 (v_h : OV) (v_s : OV)  (post : OV → OV → Prop) : Nat → Int32 → Int32 → OV → OV → Prop
  | 0, _, _, _, _ => False
  | n + 1, y4, y5, v_w, v_u => (((v_h.1 4) ≤ y5 → (∀ v_w2 : OV, v_w2 = si v_w 3 ((0 : Int32)) → (∀ v_w3 : OV, v_w3 = si v_w2 4 ((0 : Int32)) → (∀ v_w4 : OV, v_w4 = si v_w3 5 ((0 : Int32)) → (∀ x5 : Int32, x5 = ((((1 : Int32)) <<< ((v_h.1 4) &&& 31)) - ((1 : Int32))) → (∃ n6 : Nat, PX7_look_R_L72 v_h v_s post n6 y4 x5 ((0 : Int32)) v_w4 v_u)))))) ∧ (¬ (v_h.1 4) ≤ y5 → (PX7_rate_R v_w v_h v_u v_s y4 y5 (fun r9 v_w7 v_u8 => (vp_in y5 10 ∧ (∀ v_w12 : OV, v_w12 = sl v_w7 1 (vp_updL (v_w7.2.2 1) y5.toNatClampNeg r9) → (∀ x13 : Int32, x13 = y5 + (1 : Int32) → PX7_look_R_L11 v_h v_s post n y4 x13 v_w12 v_u8)))))))
set_option maxRecDepth 100000 in
set_option maxHeartbeats 1000000 in
theorem wX7_look_R_L11 {v_h : OV} {v_s : OV}  {post : OV → OV → Prop} {ad_w : Nat → Nat} {ad_h : Nat → Nat} {ad_u : Nat → Nat} {ad_s : Nat → Nat} (X : kn_X p s m args meth c cX7_look 9 none RX7 kn_all D tc Z (kn_A w0 s.heap.size))    : ∀ n : Nat, ∀ (H : Heap) (locs : List Loc) (ls : Array Slot) (y4 : Int32) (y5 : Int32) (v_w : OV) (v_u : OV), kn_I D tc (kn_A w0 s.heap.size) s.heap [(kWalk, ad_w, v_w), (kHill, ad_h, v_h), (kRule, ad_u, v_u), (kState, ad_s, v_s)] H locs → lv_has ls 9 [(0, .ref (ad_w 0)), (1, .ref (ad_h 0)), (2, .ref (ad_u 0)), (3, .ref (ad_s 0)), (4, .int y4), (5, .int y5)] → PX7_look_R_L11 v_h v_s post n y4 y5 v_w v_u → W p l e rmX7_look_R s m args below meth c H locs 0 0 (kn_Qv D tc w0 (fun (u : OV × OV) => [(kWalk, ad_w, u.1), (kHill, ad_h, v_h), (kRule, ad_u, u.2), (kState, ad_s, v_s)]) (fun (u : OV × OV) => post u.1 u.2) below args s 0 0) (F0 m 11 ls []) := by
  obtain ⟨S0, hr, hlocks, hK, hZ, hA⟩ := id X
  obtain ⟨hx, hb, hml, hown, hts⟩ := id S0
  intro n
  induction n with
  | zero =>
    intro H locs ls y4 y5 v_w v_u I hl h
    unfold PX7_look_R_L11 at h
    exact h.elim
  | succ n ih =>
    intro H locs ls y4 y5 v_w v_u I hl h
    unfold PX7_look_R_L11 at h
    refine lv_iload hx hb (kn_dec tX7_look_t0 7 rfl) (lv_at hl 5 rfl) ?_
    refine lv_aload_n hx hb (kn_dec tX7_look_t0 8 rfl) rfl (lv_at hl 1 rfl) ?_
    refine kw_geti hx hb hts inX0 hown hK I 1 rfl rfl 4 (by decide) rfl (hts _ q1_128) (kn_dec tX7_look_t0 9 rfl) ?_
    refine lv_icmp_ge (tgt := 44) hx hb (kn_dec tX7_look_t0 10 rfl) (by decide) (fun c1 => ?_) (fun c1 => ?_)
    · have h := h.1 c1
      refine lv_aload_n hx hb (kn_dec tX7_look_t0 24 rfl) rfl (lv_at hl 0 rfl) ?_
      refine lv_iconst (v := (0)) hx hb (kn_dec tX7_look_t0 25 rfl) (by decide) ?_
      refine kw_puti hx hb hts inX7 tyX7 tyX7_ok nmX7 hown hK I 0 rfl rfl 3 (by decide) rfl (hts _ q2_77) rfl rfl rfl (kn_dec tX7_look_t0 26 rfl) (fun v_w2 ev_w2 H locs I => ?_)
      have h := h v_w2 ev_w2
      have I : kn_I D tc (kn_A w0 s.heap.size) s.heap [(kWalk, ad_w, _), (kHill, ad_h, _), (kRule, ad_u, _), (kState, ad_s, _)] _ _ := I
      refine lv_aload_n hx hb (kn_dec tX7_look_t0 27 rfl) rfl (lv_at hl 0 rfl) ?_
      refine lv_iconst (v := (0)) hx hb (kn_dec tX7_look_t0 28 rfl) (by decide) ?_
      refine kw_puti hx hb hts inX7 tyX7 tyX7_ok nmX7 hown hK I 0 rfl rfl 4 (by decide) rfl (hts _ q2_79) rfl rfl rfl (kn_dec tX7_look_t0 29 rfl) (fun v_w3 ev_w3 H locs I => ?_)
      have h := h v_w3 ev_w3
      have I : kn_I D tc (kn_A w0 s.heap.size) s.heap [(kWalk, ad_w, _), (kHill, ad_h, _), (kRule, ad_u, _), (kState, ad_s, _)] _ _ := I
      refine lv_aload_n hx hb (kn_dec tX7_look_t0 30 rfl) rfl (lv_at hl 0 rfl) ?_
      refine lv_iconst (v := (0)) hx hb (kn_dec tX7_look_t0 31 rfl) (by decide) ?_
      refine kw_puti hx hb hts inX7 tyX7 tyX7_ok nmX7 hown hK I 0 rfl rfl 5 (by decide) rfl (hts _ q2_81) rfl (kn_nz (Or.inl rfl)) (kn_fz (Or.inl rfl)) (kn_dec tX7_look_t0 32 rfl) (fun v_w4 ev_w4 H locs I => ?_)
      have h := h v_w4 ev_w4
      have I : kn_I D tc (kn_A w0 s.heap.size) s.heap [(kWalk, ad_w, _), (kHill, ad_h, _), (kRule, ad_u, _), (kState, ad_s, _)] _ _ := I
      refine lv_iconst (v := (1)) hx hb (kn_dec tX7_look_t0 33 rfl) (by decide) ?_
      refine lv_aload_n hx hb (kn_dec tX7_look_t0 34 rfl) rfl (lv_at hl 1 rfl) ?_
      refine kw_geti hx hb hts inX0 hown hK I 1 rfl rfl 4 (by decide) rfl (hts _ q1_128) (kn_dec tX7_look_t0 35 rfl) ?_
      refine lv_ishl hx hb (kn_dec tX7_look_t0 36 rfl) ?_
      refine lv_iconst (v := (1)) hx hb (kn_dec tX7_look_t0 37 rfl) (by decide) ?_
      refine lv_isub hx hb (kn_dec tX7_look_t0 38 rfl) ?_
      refine lv_topi (fun x5 ex5 => ?_)
      have h := h x5 ex5
      refine lv_istore (lv' := [(5, .int _), (0, .ref (ad_w 0)), (1, .ref (ad_h 0)), (2, .ref (ad_u 0)), (3, .ref (ad_s 0)), (4, .int _)]) hx hb (kn_dec tX7_look_t0 39 rfl) hl (by decide) rfl (fun ls hl => ?_)
      refine lv_iconst (v := (0)) hx hb (kn_dec tX7_look_t0 40 rfl) (by decide) ?_
      refine lv_istore (lv' := [(6, .int _), (5, .int _), (0, .ref (ad_w 0)), (1, .ref (ad_h 0)), (2, .ref (ad_u 0)), (3, .ref (ad_s 0)), (4, .int _)]) hx hb (kn_dec tX7_look_t0 41 rfl) hl (by decide) rfl (fun ls hl => ?_)
      obtain ⟨n6, h⟩ := h
      exact wX7_look_R_L72 X n6 _ _ _ _ _ _ _ _  I (lv_sub hl [2, 3, 5, 6, 1, 0] rfl) h
    · have h := h.2 c1
      refine lv_aload_n hx hb (kn_dec tX7_look_t0 11 rfl) rfl (lv_at hl 0 rfl) ?_
      refine kw_getl hx hb hts inX7 hown hK I 0 rfl rfl 1 (by decide) rfl (hts _ q2_74) (kn_dec tX7_look_t0 12 rfl) rfl ?_
      refine lv_iload hx hb (kn_dec tX7_look_t0 13 rfl) (lv_at hl 5 rfl) ?_
      refine lv_aload_n hx hb (kn_dec tX7_look_t0 14 rfl) rfl (lv_at hl 0 rfl) ?_
      refine lv_aload_n hx hb (kn_dec tX7_look_t0 15 rfl) rfl (lv_at hl 1 rfl) ?_
      refine lv_aload_n hx hb (kn_dec tX7_look_t0 16 rfl) rfl (lv_at hl 2 rfl) ?_
      refine lv_aload_n hx hb (kn_dec tX7_look_t0 17 rfl) rfl (lv_at hl 3 rfl) ?_
      refine lv_iload hx hb (kn_dec tX7_look_t0 18 rfl) (lv_at hl 4 rfl) ?_
      refine lv_iload hx hb (kn_dec tX7_look_t0 19 rfl) (lv_at hl 5 rfl) ?_
      refine kw_calll (wc := [(kWalk, ad_w, _), (kHill, ad_h, _), (kRule, ad_u, _), (kState, ad_s, _)]) (wr := []) I hA [0, 1, 2, 3] [] rfl rfl (by decide) (by decide) (kn_runV (As := [.ref (ad_h 0), .ref (ad_u 0), .ref (ad_s 0), .int _, .int _]) S0 hK hZ hA I ((ctX7_rate_R h).met _) (kn_cwV 5 hts q3_209 q3_211 q0_17 q1_9 q3_212 rfl rfl (by decide +kernel) ⟨(Nat.le_of_ble_eq_true rfl), (Nat.le_of_ble_eq_true rfl)⟩) [0, 1, 2, 3] rfl (by decide) 0 rfl rfl rfl rfl hl.1 rfl (Nat.le_of_ble_eq_true rfl) (kn_dec tX7_look_t0 20 rfl) ⟨(Nat.le_of_ble_eq_true rfl), (Nat.le_of_ble_eq_true rfl)⟩) (fun r9 u10 H locs h I => ?_)
      have I : kn_I D tc (kn_A w0 s.heap.size) s.heap [(kWalk, ad_w, _), (kHill, ad_h, _), (kRule, ad_u, _), (kState, ad_s, _)] _ _ := I
      obtain ⟨hs11, h⟩ := h
      refine kw_last hx hb hK I 0 rfl 1 10 (List.mem_of_getElem? (i := 1) rfl) ukWalk_1 hs11 (kn_dec tX7_look_t0 21 rfl) (fun v_w12 ev_w12 H locs I => ?_)
      have h := h v_w12 ev_w12
      have I : kn_I D tc (kn_A w0 s.heap.size) s.heap [(kWalk, ad_w, _), (kHill, ad_h, _), (kRule, ad_u, _), (kState, ad_s, _)] _ _ := I
      refine kw_iinc (lvf := fun y => [(5, .int y), (0, .ref (ad_w 0)), (1, .ref (ad_h 0)), (2, .ref (ad_u 0)), (3, .ref (ad_s 0)), (4, .int _)]) (nv := (1)) hx hb (kn_dec tX7_look_t0 22 rfl) hl (k := 5) rfl (by decide) (by decide) (fun _ => rfl) (fun x13 ex13 ls hl => ?_)
      have h := h x13 ex13
      refine lv_goto (tgt := 11) hx hb (kn_dec tX7_look_t0 23 rfl) (by decide) ?_
      exact ih _ _ _ _ _ _ _  I (lv_sub hl [1, 2, 3, 4, 5, 0] rfl) h
def PX7_look_R  (v_w : OV) (v_h : OV) (v_u : OV) (v_s : OV) (a4 : Int32) (post : OV → OV → Prop) : Prop := (PX7_setSeekerWords v_w v_h v_s a4 (fun v_w1 => (∃ n3 : Nat, PX7_look_R_L11 v_h v_s post n3 a4 ((0 : Int32)) v_w1 v_u)))
set_option maxRecDepth 100000 in
set_option maxHeartbeats 1000000 in
theorem ctX7_look_R {l : Launch} {D : va_G} {tc : Nat → ClassId} {Z : (Nat → Nat) × (Nat → Nat)}  {ad_w : Nat → Nat} {ad_h : Nat → Nat} {ad_u : Nat → Nat} {ad_s : Nat → Nat} {v_w : OV} {v_h : OV} {v_u : OV} {v_s : OV} {a4 : Int32}    {post : OV → OV → Prop} (h : PX7_look_R  v_w v_h v_u v_s a4 post) : CTv l D tc Z yX7_look (Cond.code yX7_look cX7_look 9 none :: kn_all) rmX7_look_R 0 0 [.ref (ad_w 0), .ref (ad_h 0), .ref (ad_u 0), .ref (ad_s 0), .int a4] [(kWalk, ad_w, v_w), (kHill, ad_h, v_h), (kRule, ad_u, v_u), (kState, ad_s, v_s)] (fun (u : OV × OV) => [(kWalk, ad_w, u.1), (kHill, ad_h, v_h), (kRule, ad_u, u.2), (kState, ad_s, v_s)]) (fun (u : OV × OV) => post u.1 u.2) := by
  refine kn_ofv (cc := cX7_look) (nL := 9) (ret := none) (lv := [(0, .ref (ad_w 0)), (1, .ref (ad_h 0)), (2, .ref (ad_u 0)), (3, .ref (ad_s 0)), (4, .int a4)]) (by decide) (Nat.le_of_ble_eq_true rfl) rfl (fun p e s m below meth c ls X I hl _ => ?_)
  obtain ⟨S0, hr, hlocks, hK, hZ, hA⟩ := id X
  obtain ⟨hx, hb, hml, hown, hts⟩ := id S0
  unfold PX7_look_R at h
  refine lv_aload_n hx hb (kn_dec tX7_look_t0 0 rfl) rfl (lv_at hl 0 rfl) ?_
  refine lv_aload_n hx hb (kn_dec tX7_look_t0 1 rfl) rfl (lv_at hl 1 rfl) ?_
  refine lv_aload_n hx hb (kn_dec tX7_look_t0 2 rfl) rfl (lv_at hl 3 rfl) ?_
  refine lv_iload hx hb (kn_dec tX7_look_t0 3 rfl) (lv_at hl 4 rfl) ?_
  refine kw_callv (wc := [(kWalk, ad_w, _), (kHill, ad_h, _), (kState, ad_s, _)]) (wr := [(kRule, ad_u, _)]) I hA [0, 1, 3] [2] rfl rfl (by decide) (by decide) (kn_runV (As := [.ref (ad_h 0), .ref (ad_s 0), .int _]) S0 hK hZ hA I ((ctX7_setSeekerWords h).met _) (kn_cwV 3 hts q3_191 q3_193 q0_16 q1_9 q3_194 rfl rfl (by decide +kernel) ⟨(Nat.le_of_ble_eq_true rfl), (Nat.le_of_ble_eq_true rfl)⟩) [0, 1, 3] rfl (by decide) 0 rfl rfl rfl rfl hl.1 rfl (Nat.le_of_ble_eq_true rfl) (kn_dec tX7_look_t0 4 rfl) ⟨(Nat.le_of_ble_eq_true rfl), (Nat.le_of_ble_eq_true rfl)⟩) (fun u2 H locs h I => ?_)
  have I : kn_I D tc (kn_A _ s.heap.size) s.heap [(kWalk, ad_w, _), (kHill, ad_h, _), (kRule, ad_u, _), (kState, ad_s, _)] _ _ := I.sub [1, 2, 0, 3] (by decide) rfl
  refine lv_iconst (v := (0)) hx hb (kn_dec tX7_look_t0 5 rfl) (by decide) ?_
  refine lv_istore (lv' := [(5, .int _), (0, .ref (ad_w 0)), (1, .ref (ad_h 0)), (2, .ref (ad_u 0)), (3, .ref (ad_s 0)), (4, .int _)]) hx hb (kn_dec tX7_look_t0 6 rfl) hl (by decide) rfl (fun ls hl => ?_)
  obtain ⟨n3, h⟩ := h
  exact wX7_look_R_L11 X n3 _ _ _ _ _ _ _  I (lv_sub hl [1, 2, 3, 4, 5, 0] rfl) h

end
