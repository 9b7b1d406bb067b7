section
variable {p : Program} {l : Launch} {e : Env} {s : State} {m : MethodId} {args : Array Value} {below : List Frame} {meth : Method} {c : Code} {D : va_G} {tc : Nat → ClassId} {Z : (Nat → Nat) × (Nat → Nat)} {w0 : List CH}

/-! X9_shows -/
abbrev rmX9_shows : Room := { frames := 8, cells := 0, slots := 0, locals := 185 }
def PX9_shows_b120   (post : Int32 → OV → Prop) (y1 : Int32) (y2 : Int32) (y3 : Int32) (v_m : OV) : Prop := (PX9_laysBack v_m (fun v_m1 => ((¬ y1 = ((0 : Int32)) → post y3 v_m1) ∧ (y1 = ((0 : Int32)) → post y2 v_m1))))
set_option maxRecDepth 100000 in
set_option maxHeartbeats 1000000 in
theorem wX9_shows_b120   {post : Int32 → OV → Prop} {ad_m : Nat → Nat} (X : kn_X p s m args meth c cX9_shows 6 (some .int) RX9 kn_all D tc Z (kn_A w0 s.heap.size))    : ∀ (H : Heap) (locs : List Loc) (ls : Array Slot) (y1 : Int32) (y2 : Int32) (y3 : Int32) (v_m : OV), kn_I D tc (kn_A w0 s.heap.size) s.heap [(kModel, ad_m, v_m)] H locs → lv_has ls 6 [(0, .ref (ad_m 0)), (1, .int y1), (2, .int y2), (3, .int y3)] → PX9_shows_b120 post y1 y2 y3 v_m → W p l e rmX9_shows s m args below meth c H locs 0 0 (kn_Qi D tc w0 (fun (u : OV) => [(kModel, ad_m, u)]) (fun (r : Int32) (u : OV) => post r u) below args s 0 0) (F0 m 120 ls []) := by
  obtain ⟨S0, hr, hlocks, hK, hZ, hA⟩ := id X
  obtain ⟨hx, hb, hml, hown, hts⟩ := id S0
  intro H locs ls y1 y2 y3 v_m I hl h
  unfold PX9_shows_b120 at h
  refine lv_aload_n hx hb (kn_dec tX9_shows 64 rfl) rfl (lv_at hl 0 rfl) ?_
  refine kw_callv (wc := [(kModel, ad_m, _)]) (wr := []) I hA [0] [] rfl rfl (by decide) (by decide) (kn_runV (As := []) S0 hK hZ hA I ((ctX9_laysBack h).met _) (kn_cwV 0 hts q7_13 q7_15 q0_82 q1_10 q7_16 rfl rfl (by decide +kernel) ⟨(Nat.le_of_ble_eq_true rfl), (Nat.le_of_ble_eq_true rfl)⟩) [0] rfl (by decide) 0 rfl rfl rfl rfl hl.1 rfl (Nat.le_of_ble_eq_true rfl) (kn_dec tX9_shows 65 rfl) ⟨(Nat.le_of_ble_eq_true rfl), (Nat.le_of_ble_eq_true rfl)⟩) (fun u2 H locs h I => ?_)
  have I : kn_I D tc (kn_A w0 s.heap.size) s.heap [(kModel, ad_m, _)] _ _ := I
  refine lv_iload_n hx hb (kn_dec tX9_shows 66 rfl) rfl (lv_at hl 1 rfl) ?_
  refine lv_if_ne (tgt := 132) hx hb (kn_dec tX9_shows 67 rfl) (by decide) (fun c3 => ?_) (fun c3 => ?_)
  · have h := h.1 c3
    refine lv_iload_n hx hb (kn_dec tX9_shows 70 rfl) rfl (lv_at hl 3 rfl) ?_
    exact kw_iret hx hb hr hlocks I _ rfl h (kn_dec tX9_shows 71 rfl)
  · have h := h.2 c3
    refine lv_iload_n hx hb (kn_dec tX9_shows 68 rfl) rfl (lv_at hl 2 rfl) ?_
    refine lv_goto (tgt := 133) hx hb (kn_dec tX9_shows 69 rfl) (by decide) ?_
    exact kw_iret hx hb hr hlocks I _ rfl h (kn_dec tX9_shows 71 rfl)
def PX9_shows_b108  (K32 : Int32 → Int32 → Int32 → Int32 → OV → Prop) (post : Int32 → OV → Prop) (t0 : Int32) (y1 : Int32) (y2 : Int32) (y4 : Int32) (v_m : OV) : Prop := (PX9_goes v_m (fun r2 v_m1 => (∀ x4 : Int32, x4 = y4 + (1 : Int32) → K32 y1 y2 t0 x4 v_m1)))
set_option maxRecDepth 100000 in
set_option maxHeartbeats 1000000 in
theorem wX9_shows_b108  {K32 : Int32 → Int32 → Int32 → Int32 → OV → Prop} {post : Int32 → OV → Prop} {ad_m : Nat → Nat} (X : kn_X p s m args meth c cX9_shows 6 (some .int) RX9 kn_all D tc Z (kn_A w0 s.heap.size))   (hK32 : ∀ (H : Heap) (locs : List Loc) (ls : Array Slot) (y1 : Int32) (y2 : Int32) (y3 : Int32) (y4 : Int32) (v_m : OV), kn_I D tc (kn_A w0 s.heap.size) s.heap [(kModel, ad_m, v_m)] H locs → lv_has ls 6 [(0, .ref (ad_m 0)), (1, .int y1), (2, .int y2), (3, .int y3), (4, .int y4)] → K32 y1 y2 y3 y4 v_m → W p l e rmX9_shows s m args below meth c H locs 0 0 (kn_Qi D tc w0 (fun (u : OV) => [(kModel, ad_m, u)]) (fun (r : Int32) (u : OV) => post r u) below args s 0 0) (F0 m 32 ls [])) : ∀ (H : Heap) (locs : List Loc) (ls : Array Slot) (t0 : Int32) (y1 : Int32) (y2 : Int32) (y4 : Int32) (v_m : OV), kn_I D tc (kn_A w0 s.heap.size) s.heap [(kModel, ad_m, v_m)] H locs → lv_has ls 6 [(0, .ref (ad_m 0)), (1, .int y1), (2, .int y2), (4, .int y4)] → PX9_shows_b108 K32 post t0 y1 y2 y4 v_m → W p l e rmX9_shows s m args below meth c H locs 0 0 (kn_Qi D tc w0 (fun (u : OV) => [(kModel, ad_m, u)]) (fun (r : Int32) (u : OV) => post r u) below args s 0 0) (F0 m 108 ls [.int t0]) := by
  obtain ⟨S0, hr, hlocks, hK, hZ, hA⟩ := id X
  obtain ⟨hx, hb, hml, hown, hts⟩ := id S0
  intro H locs ls t0 y1 y2 y4 v_m I hl h
  unfold PX9_shows_b108 at h
  refine lv_istore_n (lv' := [(3, .int _), (0, .ref (ad_m 0)), (1, .int _), (2, .int _), (4, .int _)]) hx hb (kn_dec tX9_shows 58 rfl) rfl hl (by decide) rfl (fun ls hl => ?_)
  refine lv_aload_n hx hb (kn_dec tX9_shows 59 rfl) rfl (lv_at hl 1 rfl) ?_
  refine kw_calli (wc := [(kModel, ad_m, _)]) (wr := []) I hA [0] [] rfl rfl (by decide) (by decide) (kn_runV (As := []) S0 hK hZ hA I ((ctX9_goes h).met _) (kn_cwV 0 hts q6_155 q6_157 q0_66 q1_10 q6_158 rfl rfl (by decide +kernel) ⟨(Nat.le_of_ble_eq_true rfl), (Nat.le_of_ble_eq_true rfl)⟩) [0] rfl (by decide) 0 rfl rfl rfl rfl hl.1 rfl (Nat.le_of_ble_eq_true rfl) (kn_dec tX9_shows 60 rfl) ⟨(Nat.le_of_ble_eq_true rfl), (Nat.le_of_ble_eq_true rfl)⟩) (fun r2 u3 H locs h I => ?_)
  have I : kn_I D tc (kn_A w0 s.heap.size) s.heap [(kModel, ad_m, _)] _ _ := I
  refine lv_pop hx hb (kn_dec tX9_shows 61 rfl) rfl ?_
  refine kw_iinc (lvf := fun y => [(4, .int y), (3, .int _), (0, .ref (ad_m 0)), (1, .int _), (2, .int _)]) (nv := (1)) hx hb (kn_dec tX9_shows 62 rfl) hl (k := 4) rfl (by decide) (by decide) (fun _ => rfl) (fun x4 ex4 ls hl => ?_)
  have h := h x4 ex4
  refine lv_goto (tgt := 32) hx hb (kn_dec tX9_shows 63 rfl) (by decide) ?_
  exact hK32 _ _ _ _ _ _ _ _  I (lv_sub hl [2, 3, 4, 1, 0] rfl) h
def PX9_shows_L56  (K32 : Int32 → Int32 → Int32 → Int32 → OV → Prop) (post : Int32 → OV → Prop) : Nat → Int32 → Int32 → Int32 → Int32 → OV → Prop
  | 0, _, _, _, _, _ => False
  | n + 1, y1, y2, y4, y5, v_m => ((y5 < ((0 : Int32)) → ((¬ y2 = ((-2 : Int32)) → PX9_shows_b108 K32 post (v_m.2.1 1 ((8 : Int32)).toNatClampNeg) y1 y2 y4 v_m) ∧ (y2 = ((-2 : Int32)) → PX9_shows_b108 K32 post ((-2 : Int32)) y1 y2 y4 v_m))) ∧ (¬ y5 < ((0 : Int32)) → (vp_in y5 10 ∧ (((v_m.2.1 5 y5.toNatClampNeg) < (v_m.2.1 1 ((1 : Int32)).toNatClampNeg) → (∀ x5 : Int32, x5 = y5 + (-1 : Int32) → PX9_shows_L56 K32 post n y1 y2 y4 x5 v_m)) ∧ (¬ (v_m.2.1 5 y5.toNatClampNeg) < (v_m.2.1 1 ((1 : Int32)).toNatClampNeg) → (∀ x6 : Int32, x6 = y5 + (-1 : Int32) → PX9_shows_L56 K32 post n y1 y5 y4 x6 v_m))))))
set_option maxRecDepth 100000 in
set_option maxHeartbeats 1000000 in
theorem wX9_shows_L56  {K32 : Int32 → Int32 → Int32 → Int32 → OV → Prop} {post : Int32 → OV → Prop} {ad_m : Nat → Nat} (X : kn_X p s m args meth c cX9_shows 6 (some .int) RX9 kn_all D tc Z (kn_A w0 s.heap.size))   (hK32 : ∀ (H : Heap) (locs : List Loc) (ls : Array Slot) (y1 : Int32) (y2 : Int32) (y3 : Int32) (y4 : Int32) (v_m : OV), kn_I D tc (kn_A w0 s.heap.size) s.heap [(kModel, ad_m, v_m)] H locs → lv_has ls 6 [(0, .ref (ad_m 0)), (1, .int y1), (2, .int y2), (3, .int y3), (4, .int y4)] → K32 y1 y2 y3 y4 v_m → W p l e rmX9_shows s m args below meth c H locs 0 0 (kn_Qi D tc w0 (fun (u : OV) => [(kModel, ad_m, u)]) (fun (r : Int32) (u : OV) => post r u) below args s 0 0) (F0 m 32 ls [])) : ∀ n : Nat, ∀ (H : Heap) (locs : List Loc) (ls : Array Slot) (y1 : Int32) (y2 : Int32) (y4 : Int32) (y5 : Int32) (v_m : OV), kn_I D tc (kn_A w0 s.heap.size) s.heap [(kModel, ad_m, v_m)] H locs → lv_has ls 6 [(0, .ref (ad_m 0)), (1, .int y1), (2, .int y2), (4, .int y4), (5, .int y5)] → PX9_shows_L56 K32 post n y1 y2 y4 y5 v_m → W p l e rmX9_shows s m args below meth c H locs 0 0 (kn_Qi D tc w0 (fun (u : OV) => [(kModel, ad_m, u)]) (fun (r : Int32) (u : OV) => post r u) below args s 0 0) (F0 m 56 ls []) := by
  obtain ⟨S0, hr, hlocks, hK, hZ, hA⟩ := id X
  obtain ⟨hx, hb, hml, hown, hts⟩ := id S0
  intro n
  induction n with
  | zero =>
    intro H locs ls y1 y2 y4 y5 v_m I hl h
    unfold PX9_shows_L56 at h
    exact h.elim
  | succ n ih =>
    intro H locs ls y1 y2 y4 y5 v_m I hl h
    unfold PX9_shows_L56 at h
    refine lv_iload hx hb (kn_dec tX9_shows 32 rfl) (lv_at hl 4 rfl) ?_
    refine lv_if_lt (tgt := 90) hx hb (kn_dec tX9_shows 33 rfl) (by decide) (fun c1 => ?_) (fun c1 => ?_)
    · have h := h.1 c1
      refine lv_iload_n hx hb (kn_dec tX9_shows 49 rfl) rfl (lv_at hl 2 rfl) ?_
      refine lv_bipush (v := (-2)) hx hb (kn_dec tX9_shows 50 rfl) (by decide) ?_
      refine lv_icmp_ne (tgt := 101) hx hb (kn_dec tX9_shows 51 rfl) (by decide) (fun c2 => ?_) (fun c2 => ?_)
      · have h := h.1 c2
        refine lv_aload_n hx hb (kn_dec tX9_shows 54 rfl) rfl (lv_at hl 0 rfl) ?_
        refine kw_getl hx hb hts inX9 hown hK I 0 rfl rfl 1 (by decide) rfl (hts _ q4_201) (kn_dec tX9_shows 55 rfl) rfl ?_
        refine lv_bipush (v := (8)) hx hb (kn_dec tX9_shows 56 rfl) (by decide) ?_
        refine kw_iald hx hb hK I 0 rfl 1 12 (List.mem_of_getElem? (i := 0) rfl) (by unfold vp_in; decide) (kn_dec tX9_shows 57 rfl) ?_
        exact wX9_shows_b108 X hK32 _ _ _ _ _ _ _ _  I (lv_sub hl [0, 1, 2, 3] rfl) h
      · have h := h.2 c2
        refine lv_bipush (v := (-2)) hx hb (kn_dec tX9_shows 52 rfl) (by decide) ?_
        refine lv_goto (tgt := 108) hx hb (kn_dec tX9_shows 53 rfl) (by decide) ?_
        exact wX9_shows_b108 X hK32 _ _ _ _ _ _ _ _  I (lv_sub hl [0, 1, 2, 3] rfl) h
    · have h := h.2 c1
      refine lv_aload_n hx hb (kn_dec tX9_shows 34 rfl) rfl (lv_at hl 0 rfl) ?_
      refine kw_getl hx hb hts inX9 hown hK I 0 rfl rfl 5 (by decide) rfl (hts _ q4_205) (kn_dec tX9_shows 35 rfl) rfl ?_
      refine lv_iload hx hb (kn_dec tX9_shows 36 rfl) (lv_at hl 4 rfl) ?_
      obtain ⟨hs3, h⟩ := h
      refine kw_iald hx hb hK I 0 rfl 5 10 (List.mem_of_getElem? (i := 4) rfl) hs3 (kn_dec tX9_shows 37 rfl) ?_
      refine lv_aload_n hx hb (kn_dec tX9_shows 38 rfl) rfl (lv_at hl 0 rfl) ?_
      refine kw_getl hx hb hts inX9 hown hK I 0 rfl rfl 1 (by decide) rfl (hts _ q4_201) (kn_dec tX9_shows 39 rfl) rfl ?_
      refine lv_iconst (v := (1)) hx hb (kn_dec tX9_shows 40 rfl) (by decide) ?_
      refine kw_iald hx hb hK I 0 rfl 1 12 (List.mem_of_getElem? (i := 0) rfl) (by unfold vp_in; decide) (kn_dec tX9_shows 41 rfl) ?_
      refine lv_icmp_lt (tgt := 82) hx hb (kn_dec tX9_shows 42 rfl) (by decide) (fun c4 => ?_) (fun c4 => ?_)
      · have h := h.1 c4
        refine lv_iload_n hx hb (kn_dec tX9_shows 45 rfl) rfl (lv_at hl 2 rfl) ?_
        refine lv_istore_n (lv' := [(2, .int _), (0, .ref (ad_m 0)), (1, .int _), (4, .int _), (5, .int _)]) hx hb (kn_dec tX9_shows 46 rfl) rfl hl (by decide) rfl (fun ls hl => ?_)
        refine kw_iinc (lvf := fun y => [(5, .int y), (2, .int _), (0, .ref (ad_m 0)), (1, .int _), (4, .int _)]) (nv := (-1)) hx hb (kn_dec tX9_shows 47 rfl) hl (k := 4) rfl (by decide) (by decide) (fun _ => rfl) (fun x5 ex5 ls hl => ?_)
        have h := h x5 ex5
        refine lv_goto (tgt := 56) hx hb (kn_dec tX9_shows 48 rfl) (by decide) ?_
        exact ih _ _ _ _ _ _ _ _  I (lv_sub hl [2, 3, 1, 4, 0] rfl) h
      · have h := h.2 c4
        refine lv_iload hx hb (kn_dec tX9_shows 43 rfl) (lv_at hl 4 rfl) ?_
        refine lv_goto (tgt := 83) hx hb (kn_dec tX9_shows 44 rfl) (by decide) ?_
        refine lv_istore_n (lv' := [(2, .int _), (0, .ref (ad_m 0)), (1, .int _), (4, .int _), (5, .int _)]) hx hb (kn_dec tX9_shows 46 rfl) rfl hl (by decide) rfl (fun ls hl => ?_)
        refine kw_iinc (lvf := fun y => [(5, .int y), (2, .int _), (0, .ref (ad_m 0)), (1, .int _), (4, .int _)]) (nv := (-1)) hx hb (kn_dec tX9_shows 47 rfl) hl (k := 4) rfl (by decide) (by decide) (fun _ => rfl) (fun x6 ex6 ls hl => ?_)
        have h := h x6 ex6
        refine lv_goto (tgt := 56) hx hb (kn_dec tX9_shows 48 rfl) (by decide) ?_
        exact ih _ _ _ _ _ _ _ _  I (lv_sub hl [2, 3, 1, 4, 0] rfl) h
def PX9_shows_L32   (post : Int32 → OV → Prop) : Nat → Int32 → Int32 → Int32 → Int32 → OV → Prop
  | 0, _, _, _, _, _ => False
  | n + 1, y1, y2, y3, y4, v_m => ((((200 : Int32)) ≤ y4 → PX9_shows_b120 post y1 y2 y3 v_m) ∧ (¬ ((200 : Int32)) ≤ y4 → ((¬ y2 = ((-2 : Int32)) → PX9_shows_b120 post y1 y2 y3 v_m) ∧ (y2 = ((-2 : Int32)) → (∀ x3 : Int32, x3 = ((v_m.2.1 1 ((3 : Int32)).toNatClampNeg) - ((1 : Int32))) → (∃ n4 : Nat, PX9_shows_L56 (PX9_shows_L32 post n) post n4 y1 y2 y4 x3 v_m))))))
set_option maxRecDepth 100000 in
set_option maxHeartbeats 1000000 in
theorem wX9_shows_L32   {post : Int32 → OV → Prop} {ad_m : Nat → Nat} (X : kn_X p s m args meth c cX9_shows 6 (some .int) RX9 kn_all D tc Z (kn_A w0 s.heap.size))    : ∀ n : Nat, ∀ (H : Heap) (locs : List Loc) (ls : Array Slot) (y1 : Int32) (y2 : Int32) (y3 : Int32) (y4 : Int32) (v_m : OV), kn_I D tc (kn_A w0 s.heap.size) s.heap [(kModel, ad_m, v_m)] H locs → lv_has ls 6 [(0, .ref (ad_m 0)), (1, .int y1), (2, .int y2), (3, .int y3), (4, .int y4)] → PX9_shows_L32 post n y1 y2 y3 y4 v_m → W p l e rmX9_shows s m args below meth c H locs 0 0 (kn_Qi D tc w0 (fun (u : OV) => [(kModel, ad_m, u)]) (fun (r : Int32) (u : OV) => post r u) below args s 0 0) (F0 m 32 ls []) := by
  obtain ⟨S0, hr, hlocks, hK, hZ, hA⟩ := id X
  obtain ⟨hx, hb, hml, hown, hts⟩ := id S0
  intro n
  induction n with
  | zero =>
    intro H locs ls y1 y2 y3 y4 v_m I hl h
    unfold PX9_shows_L32 at h
    exact h.elim
  | succ n ih =>
    intro H locs ls y1 y2 y3 y4 v_m I hl h
    unfold PX9_shows_L32 at h
    refine lv_iload hx hb (kn_dec tX9_shows 19 rfl) (lv_at hl 4 rfl) ?_
    refine lv_sipush (v := (200)) hx hb (kn_dec tX9_shows 20 rfl) (by decide) ?_
    refine lv_icmp_ge (tgt := 120) hx hb (kn_dec tX9_shows 21 rfl) (by decide) (fun c1 => ?_) (fun c1 => ?_)
    · have h := h.1 c1
      exact wX9_shows_b120 X _ _ _ _ _ _ _  I (lv_sub hl [0, 1, 2, 3] rfl) h
    · have h := h.2 c1
      refine lv_iload_n hx hb (kn_dec tX9_shows 22 rfl) rfl (lv_at hl 2 rfl) ?_
      refine lv_bipush (v := (-2)) hx hb (kn_dec tX9_shows 23 rfl) (by decide) ?_
      refine lv_icmp_ne (tgt := 120) hx hb (kn_dec tX9_shows 24 rfl) (by decide) (fun c2 => ?_) (fun c2 => ?_)
      · have h := h.1 c2
        exact wX9_shows_b120 X _ _ _ _ _ _ _  I (lv_sub hl [0, 1, 2, 3] rfl) h
      · have h := h.2 c2
        refine lv_aload_n hx hb (kn_dec tX9_shows 25 rfl) rfl (lv_at hl 0 rfl) ?_
        refine kw_getl hx hb hts inX9 hown hK I 0 rfl rfl 1 (by decide) rfl (hts _ q4_201) (kn_dec tX9_shows 26 rfl) rfl ?_
        refine lv_iconst (v := (3)) hx hb (kn_dec tX9_shows 27 rfl) (by decide) ?_
        refine kw_iald hx hb hK I 0 rfl 1 12 (List.mem_of_getElem? (i := 0) rfl) (by unfold vp_in; decide) (kn_dec tX9_shows 28 rfl) ?_
        refine lv_iconst (v := (1)) hx hb (kn_dec tX9_shows 29 rfl) (by decide) ?_
        refine lv_isub hx hb (kn_dec tX9_shows 30 rfl) ?_
        refine lv_topi (fun x3 ex3 => ?_)
        have h := h x3 ex3
        refine lv_istore (lv' := [(5, .int _), (0, .ref (ad_m 0)), (1, .int _), (2, .int _), (3, .int _), (4, .int _)]) hx hb (kn_dec tX9_shows 31 rfl) hl (by decide) rfl (fun ls hl => ?_)
        obtain ⟨n4, h⟩ := h
        exact wX9_shows_L56 X ih n4 _ _ _ _ _ _ _ _  I (lv_sub hl [1, 2, 3, 5, 0] rfl) h
def PX9_shows  (v_m : OV) (a1 : Int32) (post : Int32 → OV → Prop) : Prop := (PX9_isHill v_m (fun r1 => ((r1 = ((0 : Int32)) → post ((-1 : Int32)) v_m) ∧ (¬ r1 = ((0 : Int32)) → (PX9_in a1.toInt64 ((0 : Int64)) ((1 : Int64)) (fun r4 => ((¬ r4 = ((0 : Int32)) → (PX9_keepsAll v_m (fun v_m7 => (∃ n9 : Nat, PX9_shows_L32 post n9 a1 ((-2 : Int32)) ((-2 : Int32)) ((0 : Int32)) v_m7)))) ∧ (r4 = ((0 : Int32)) → post ((-1 : Int32)) v_m))))))))
set_option maxRecDepth 100000 in
set_option maxHeartbeats 1000000 in
theorem ctX9_shows {l : Launch} {D : va_G} {tc : Nat → ClassId} {Z : (Nat → Nat) × (Nat → Nat)}  {ad_m : Nat → Nat} {v_m : OV} {a1 : Int32}    {post : Int32 → OV → Prop} (h : PX9_shows  v_m a1 post) : CTi l D tc Z yX9_shows (Cond.code yX9_shows cX9_shows 6 (some .int) :: kn_all) rmX9_shows 0 0 [.ref (ad_m 0), .int a1] [(kModel, ad_m, v_m)] (fun (u : OV) => [(kModel, ad_m, u)]) (fun (r : Int32) (u : OV) => post r u) := by
  refine kn_ofi (cc := cX9_shows) (nL := 6) (ret := (some .int)) (lv := [(0, .ref (ad_m 0)), (1, .int a1)]) (by decide) (Nat.le_of_ble_eq_true rfl) rfl (fun p e s m below meth c ls X I hl _ => ?_)
  obtain ⟨S0, hr, hlocks, hK, hZ, hA⟩ := id X
  obtain ⟨hx, hb, hml, hown, hts⟩ := id S0
  unfold PX9_shows at h
  refine lv_aload_n hx hb (kn_dec tX9_shows 0 rfl) rfl (lv_at hl 0 rfl) ?_
  refine kw_calli (wc := [(kModel, ad_m, _)]) (wr := []) I hA [0] [] rfl rfl (by decide) (by decide) (kn_runV (As := []) S0 hK hZ hA I ((ctX9_isHill h).met _) (kn_cwV 0 hts q6_147 q6_149 q0_64 q1_10 q6_150 rfl rfl (by decide +kernel) ⟨(Nat.le_of_ble_eq_true rfl), (Nat.le_of_ble_eq_true rfl)⟩) [0] rfl (by decide) 0 rfl rfl rfl rfl hl.1 rfl (Nat.le_of_ble_eq_true rfl) (kn_dec tX9_shows 1 rfl) ⟨(Nat.le_of_ble_eq_true rfl), (Nat.le_of_ble_eq_true rfl)⟩) (fun r1 u2 H locs h I => ?_)
  obtain ⟨hz_r1, h⟩ := h
  have I : kn_I D tc (kn_A _ s.heap.size) s.heap [(kModel, ad_m, _)] _ _ := I
  refine lv_if_eq (tgt := 17) hx hb (kn_dec tX9_shows 2 rfl) (by decide) (fun c3 => ?_) (fun c3 => ?_)
  · have h := h.1 c3
    refine lv_iconst (v := (-1)) hx hb (kn_dec tX9_shows 9 rfl) (by decide) ?_
    exact kw_iret hx hb hr hlocks I _ rfl h (kn_dec tX9_shows 10 rfl)
  · have h := h.2 c3
    refine lv_iload_n hx hb (kn_dec tX9_shows 3 rfl) rfl (lv_at hl 1 rfl) ?_
    refine lv_i2l hx hb (kn_dec tX9_shows 4 rfl) rfl ?_
    refine lv_lconst (v := 0) hx hb (kn_dec tX9_shows 5 rfl) (by decide) ?_
    refine lv_lconst (v := 1) hx hb (kn_dec tX9_shows 6 rfl) (by decide) ?_
    refine kw_calli (wc := []) (wr := [(kModel, ad_m, _)]) I hA [] [0] rfl rfl (by decide) (by decide) (kn_runS (As := [.long _, .long _, .long _]) S0 hK hZ hA I ((ctX9_in h).met _) (kn_cwS 3 hts q6_1 q6_2 q1_10 q6_3 rfl rfl (by decide +kernel) ⟨(Nat.le_of_ble_eq_true rfl), (Nat.le_of_ble_eq_true rfl)⟩) [] rfl (by decide) rfl hl.1 rfl (Nat.le_of_ble_eq_true rfl) (kn_dec tX9_shows 7 rfl) ⟨(Nat.le_of_ble_eq_true rfl), (Nat.le_of_ble_eq_true rfl)⟩) (fun r4 u5 H locs h I => ?_)
    obtain ⟨hz_r4, h⟩ := h
    have I : kn_I D tc (kn_A _ s.heap.size) s.heap [(kModel, ad_m, _)] _ _ := I
    refine lv_if_ne (tgt := 19) hx hb (kn_dec tX9_shows 8 rfl) (by decide) (fun c6 => ?_) (fun c6 => ?_)
    · have h := h.1 c6
      refine lv_aload_n hx hb (kn_dec tX9_shows 11 rfl) rfl (lv_at hl 0 rfl) ?_
      refine kw_callv (wc := [(kModel, ad_m, _)]) (wr := []) I hA [0] [] rfl rfl (by decide) (by decide) (kn_runV (As := []) S0 hK hZ hA I ((ctX9_keepsAll h).met _) (kn_cwV 0 hts q6_237 q6_239 q0_78 q1_10 q7_0 rfl rfl (by decide +kernel) ⟨(Nat.le_of_ble_eq_true rfl), (Nat.le_of_ble_eq_true rfl)⟩) [0] rfl (by decide) 0 rfl rfl rfl rfl hl.1 rfl (Nat.le_of_ble_eq_true rfl) (kn_dec tX9_shows 12 rfl) ⟨(Nat.le_of_ble_eq_true rfl), (Nat.le_of_ble_eq_true rfl)⟩) (fun u8 H locs h I => ?_)
      have I : kn_I D tc (kn_A _ s.heap.size) s.heap [(kModel, ad_m, _)] _ _ := I
      refine lv_bipush (v := (-2)) hx hb (kn_dec tX9_shows 13 rfl) (by decide) ?_
      refine lv_istore_n (lv' := [(2, .int _), (0, .ref (ad_m 0)), (1, .int _)]) hx hb (kn_dec tX9_shows 14 rfl) rfl hl (by decide) rfl (fun ls hl => ?_)
      refine lv_bipush (v := (-2)) hx hb (kn_dec tX9_shows 15 rfl) (by decide) ?_
      refine lv_istore_n (lv' := [(3, .int _), (2, .int _), (0, .ref (ad_m 0)), (1, .int _)]) hx hb (kn_dec tX9_shows 16 rfl) rfl hl (by decide) rfl (fun ls hl => ?_)
      refine lv_iconst (v := (0)) hx hb (kn_dec tX9_shows 17 rfl) (by decide) ?_
      refine lv_istore (lv' := [(4, .int _), (3, .int _), (2, .int _), (0, .ref (ad_m 0)), (1, .int _)]) hx hb (kn_dec tX9_shows 18 rfl) hl (by decide) rfl (fun ls hl => ?_)
      obtain ⟨n9, h⟩ := h
      exact wX9_shows_L32 X n9 _ _ _ _ _ _ _ _  I (lv_sub hl [3, 4, 2, 1, 0] rfl) h
    · have h := h.2 c6
      refine lv_iconst (v := (-1)) hx hb (kn_dec tX9_shows 9 rfl) (by decide) ?_
      exact kw_iret hx hb hr hlocks I _ rfl h (kn_dec tX9_shows 10 rfl)

/-! X9_name -/
abbrev rmX9_name : Room := { frames := 2, cells := 0, slots := 0, locals := 46 }
def PX9_name  (v_m : OV) (a1 : Int32) (a2 : Int32) (post : Int32 → OV → Prop) : Prop := ((¬ a1 = ((-1 : Int32)) → (∀ x2 : Int32, x2 = (v_m.2.1 1 ((9 : Int32)).toNatClampNeg) → (PX9_in a1.toInt64 ((0 : Int64)) ((60 : Int64)) (fun r3 => ((r3 = ((0 : Int32)) → post ((-2 : Int32)) v_m) ∧ (¬ r3 = ((0 : Int32)) → (PX9_isSeeker v_m a2 (fun r6 => ((r6 = ((0 : Int32)) → post ((-2 : Int32)) v_m) ∧ (¬ r6 = ((0 : Int32)) → ((¬ x2 = ((10 : Int32)) → (vp_in x2 10 ∧ (∀ v_m11 : OV, v_m11 = sa v_m 15 (upd (v_m.2.1 15) x2.toNatClampNeg a1) → (vp_in x2 10 ∧ (∀ v_m13 : OV, v_m13 = sa v_m11 16 (upd (v_m11.2.1 16) x2.toNatClampNeg a2) → (∀ x14 : Int32, x14 = ((v_m13.2.1 1 ((9 : Int32)).toNatClampNeg) + ((1 : Int32))) → (∀ v_m15 : OV, v_m15 = sa v_m13 1 (upd (v_m13.2.1 1) ((9 : Int32)).toNatClampNeg x14) → post (x2 + ((1 : Int32))) v_m15))))))) ∧ (x2 = ((10 : Int32)) → post ((-2 : Int32)) v_m)))))))))))) ∧ (a1 = ((-1 : Int32)) → (∀ v_m16 : OV, v_m16 = sa v_m 1 (upd (v_m.2.1 1) ((9 : Int32)).toNatClampNeg ((0 : Int32))) → post ((0 : Int32)) v_m16)))
set_option maxRecDepth 100000 in
set_option maxHeartbeats 1000000 in
theorem ctX9_name {l : Launch} {D : va_G} {tc : Nat → ClassId} {Z : (Nat → Nat) × (Nat → Nat)}  {ad_m : Nat → Nat} {v_m : OV} {a1 : Int32} {a2 : Int32}    {post : Int32 → OV → Prop} (h : PX9_name  v_m a1 a2 post) : CTi l D tc Z yX9_name (Cond.code yX9_name cX9_name 4 (some .int) :: kn_all) rmX9_name 0 0 [.ref (ad_m 0), .int a1, .int a2] [(kModel, ad_m, v_m)] (fun (u : OV) => [(kModel, ad_m, u)]) (fun (r : Int32) (u : OV) => post r u) := by
  refine kn_ofi (cc := cX9_name) (nL := 4) (ret := (some .int)) (lv := [(0, .ref (ad_m 0)), (1, .int a1), (2, .int a2)]) (by decide) (Nat.le_of_ble_eq_true rfl) rfl (fun p e s m below meth c ls X I hl _ => ?_)
  obtain ⟨S0, hr, hlocks, hK, hZ, hA⟩ := id X
  obtain ⟨hx, hb, hml, hown, hts⟩ := id S0
  unfold PX9_name at h
  refine lv_iload_n hx hb (kn_dec tX9_name 0 rfl) rfl (lv_at hl 1 rfl) ?_
  refine lv_iconst (v := (-1)) hx hb (kn_dec tX9_name 1 rfl) (by decide) ?_
  refine lv_icmp_ne (tgt := 15) hx hb (kn_dec tX9_name 2 rfl) (by decide) (fun c1 => ?_) (fun c1 => ?_)
  · have h := h.1 c1
    refine lv_aload_n hx hb (kn_dec tX9_name 10 rfl) rfl (lv_at hl 0 rfl) ?_
    refine kw_getl hx hb hts inX9 hown hK I 0 rfl rfl 1 (by decide) rfl (hts _ q4_201) (kn_dec tX9_name 11 rfl) rfl ?_
    refine lv_bipush (v := (9)) hx hb (kn_dec tX9_name 12 rfl) (by decide) ?_
    refine kw_iald hx hb hK I 0 rfl 1 12 (List.mem_of_getElem? (i := 0) rfl) (by unfold vp_in; decide) (kn_dec tX9_name 13 rfl) ?_
    refine lv_topi (fun x2 ex2 => ?_)
    have h := h x2 ex2
    refine lv_istore_n (lv' := [(3, .int _), (0, .ref (ad_m 0)), (1, .int _), (2, .int _)]) hx hb (kn_dec tX9_name 14 rfl) rfl hl (by decide) rfl (fun ls hl => ?_)
    refine lv_iload_n hx hb (kn_dec tX9_name 15 rfl) rfl (lv_at hl 2 rfl) ?_
    refine lv_i2l hx hb (kn_dec tX9_name 16 rfl) rfl ?_
    refine lv_lconst (v := 0) hx hb (kn_dec tX9_name 17 rfl) (by decide) ?_
    refine lv_ldc2 (v := (60)) hx hb hown (hts _ q7_29) (kn_dec tX9_name 18 rfl) ?_
    refine kw_calli (wc := []) (wr := [(kModel, ad_m, _)]) I hA [] [0] rfl rfl (by decide) (by decide) (kn_runS (As := [.long _, .long _, .long _]) S0 hK hZ hA I ((ctX9_in h).met _) (kn_cwS 3 hts q6_1 q6_2 q1_10 q6_3 rfl rfl (by decide +kernel) ⟨(Nat.le_of_ble_eq_true rfl), (Nat.le_of_ble_eq_true rfl)⟩) [] rfl (by decide) rfl hl.1 rfl (Nat.le_of_ble_eq_true rfl) (kn_dec tX9_name 19 rfl) ⟨(Nat.le_of_ble_eq_true rfl), (Nat.le_of_ble_eq_true rfl)⟩) (fun r3 u4 H locs h I => ?_)
    obtain ⟨hz_r3, h⟩ := h
    have I : kn_I D tc (kn_A _ s.heap.size) s.heap [(kModel, ad_m, _)] _ _ := I
    refine lv_if_eq (tgt := 49) hx hb (kn_dec tX9_name 20 rfl) (by decide) (fun c5 => ?_) (fun c5 => ?_)
    · have h := h.1 c5
      refine lv_bipush (v := (-2)) hx hb (kn_dec tX9_name 28 rfl) (by decide) ?_
      exact kw_iret hx hb hr hlocks I _ rfl h (kn_dec tX9_name 29 rfl)
    · have h := h.2 c5
      refine lv_aload_n hx hb (kn_dec tX9_name 21 rfl) rfl (lv_at hl 1 rfl) ?_
      refine lv_iload_n hx hb (kn_dec tX9_name 22 rfl) rfl (lv_at hl 3 rfl) ?_
      refine kw_calli (wc := [(kModel, ad_m, _)]) (wr := []) I hA [0] [] rfl rfl (by decide) (by decide) (kn_runV (As := [.int _]) S0 hK hZ hA I ((ctX9_isSeeker h).met _) (kn_cwV 1 hts q6_119 q6_121 q0_60 q1_10 q6_122 rfl rfl (by decide +kernel) ⟨(Nat.le_of_ble_eq_true rfl), (Nat.le_of_ble_eq_true rfl)⟩) [0] rfl (by decide) 0 rfl rfl rfl rfl hl.1 rfl (Nat.le_of_ble_eq_true rfl) (kn_dec tX9_name 23 rfl) ⟨(Nat.le_of_ble_eq_true rfl), (Nat.le_of_ble_eq_true rfl)⟩) (fun r6 u7 H locs h I => ?_)
      obtain ⟨hz_r6, h⟩ := h
      have I : kn_I D tc (kn_A _ s.heap.size) s.heap [(kModel, ad_m, _)] _ _ := I
      refine lv_if_eq (tgt := 49) hx hb (kn_dec tX9_name 24 rfl) (by decide) (fun c8 => ?_) (fun c8 => ?_)
      · have h := h.1 c8
        refine lv_bipush (v := (-2)) hx hb (kn_dec tX9_name 28 rfl) (by decide) ?_
        exact kw_iret hx hb hr hlocks I _ rfl h (kn_dec tX9_name 29 rfl)
      · have h := h.2 c8
        refine lv_iload_n hx hb (kn_dec tX9_name 25 rfl) rfl (lv_at hl 0 rfl) ?_
        refine lv_bipush (v := (10)) hx hb (kn_dec tX9_name 26 rfl) (by decide) ?_
        refine lv_icmp_ne (tgt := 52) hx hb (kn_dec tX9_name 27 rfl) (by decide) (fun c9 => ?_) (fun c9 => ?_)
        · have h := h.1 c9
          refine lv_aload_n hx hb (kn_dec tX9_name 30 rfl) rfl (lv_at hl 1 rfl) ?_
          refine kw_getl hx hb hts inX9 hown hK I 0 rfl rfl 15 (by decide) rfl (hts _ q4_215) (kn_dec tX9_name 31 rfl) rfl ?_
          refine lv_iload_n hx hb (kn_dec tX9_name 32 rfl) rfl (lv_at hl 0 rfl) ?_
          refine lv_iload_n hx hb (kn_dec tX9_name 33 rfl) rfl (lv_at hl 2 rfl) ?_
          obtain ⟨hs10, h⟩ := h
          refine kw_iast hx hb hK I 0 rfl 15 10 (List.mem_of_getElem? (i := 14) rfl) ukModel_15 hs10 (kn_dec tX9_name 34 rfl) (fun v_m11 ev_m11 H locs I => ?_)
          have h := h v_m11 ev_m11
          have I : kn_I D tc (kn_A _ s.heap.size) s.heap [(kModel, ad_m, _)] _ _ := I
          refine lv_aload_n hx hb (kn_dec tX9_name 35 rfl) rfl (lv_at hl 1 rfl) ?_
          refine kw_getl hx hb hts inX9 hown hK I 0 rfl rfl 16 (by decide) rfl (hts _ q4_216) (kn_dec tX9_name 36 rfl) rfl ?_
          refine lv_iload_n hx hb (kn_dec tX9_name 37 rfl) rfl (lv_at hl 0 rfl) ?_
          refine lv_iload_n hx hb (kn_dec tX9_name 38 rfl) rfl (lv_at hl 3 rfl) ?_
          obtain ⟨hs12, h⟩ := h
          refine kw_iast hx hb hK I 0 rfl 16 10 (List.mem_of_getElem? (i := 15) rfl) ukModel_16 hs12 (kn_dec tX9_name 39 rfl) (fun v_m13 ev_m13 H locs I => ?_)
          have h := h v_m13 ev_m13
          have I : kn_I D tc (kn_A _ s.heap.size) s.heap [(kModel, ad_m, _)] _ _ := I
          refine lv_aload_n hx hb (kn_dec tX9_name 40 rfl) rfl (lv_at hl 1 rfl) ?_
          refine kw_getl hx hb hts inX9 hown hK I 0 rfl rfl 1 (by decide) rfl (hts _ q4_201) (kn_dec tX9_name 41 rfl) rfl ?_
          refine lv_bipush (v := (9)) hx hb (kn_dec tX9_name 42 rfl) (by decide) ?_
          refine lv_dup2_11 hx hb (kn_dec tX9_name 43 rfl) rfl rfl ?_
          refine kw_iald hx hb hK I 0 rfl 1 12 (List.mem_of_getElem? (i := 0) rfl) (by unfold vp_in; decide) (kn_dec tX9_name 44 rfl) ?_
          refine lv_iconst (v := (1)) hx hb (kn_dec tX9_name 45 rfl) (by decide) ?_
          refine lv_iadd hx hb (kn_dec tX9_name 46 rfl) ?_
          refine lv_topi (fun x14 ex14 => ?_)
          have h := h x14 ex14
          refine kw_iast hx hb hK I 0 rfl 1 12 (List.mem_of_getElem? (i := 0) rfl) ukModel_1 (by unfold vp_in; decide) (kn_dec tX9_name 47 rfl) (fun v_m15 ev_m15 H locs I => ?_)
          have h := h v_m15 ev_m15
          have I : kn_I D tc (kn_A _ s.heap.size) s.heap [(kModel, ad_m, _)] _ _ := I
          refine lv_iload_n hx hb (kn_dec tX9_name 48 rfl) rfl (lv_at hl 0 rfl) ?_
          refine lv_iconst (v := (1)) hx hb (kn_dec tX9_name 49 rfl) (by decide) ?_
          refine lv_iadd hx hb (kn_dec tX9_name 50 rfl) ?_
          exact kw_iret hx hb hr hlocks I _ rfl h (kn_dec tX9_name 51 rfl)
        · have h := h.2 c9
          refine lv_bipush (v := (-2)) hx hb (kn_dec tX9_name 28 rfl) (by decide) ?_
          exact kw_iret hx hb hr hlocks I _ rfl h (kn_dec tX9_name 29 rfl)
  · have h := h.2 c1
    refine lv_aload_n hx hb (kn_dec tX9_name 3 rfl) rfl (lv_at hl 0 rfl) ?_
    refine kw_getl hx hb hts inX9 hown hK I 0 rfl rfl 1 (by decide) rfl (hts _ q4_201) (kn_dec tX9_name 4 rfl) rfl ?_
    refine lv_bipush (v := (9)) hx hb (kn_dec tX9_name 5 rfl) (by decide) ?_
    refine lv_iconst (v := (0)) hx hb (kn_dec tX9_name 6 rfl) (by decide) ?_
    refine kw_iast hx hb hK I 0 rfl 1 12 (List.mem_of_getElem? (i := 0) rfl) ukModel_1 (by unfold vp_in; decide) (kn_dec tX9_name 7 rfl) (fun v_m16 ev_m16 H locs I => ?_)
    have h := h v_m16 ev_m16
    have I : kn_I D tc (kn_A _ s.heap.size) s.heap [(kModel, ad_m, _)] _ _ := I
    refine lv_iconst (v := (0)) hx hb (kn_dec tX9_name 8 rfl) (by decide) ?_
    exact kw_iret hx hb hr hlocks I _ rfl h (kn_dec tX9_name 9 rfl)

/-! X9_laysWriting -/
abbrev rmX9_laysWriting : Room := { frames := 9, cells := 0, slots := 0, locals := 207 }
def PX9_laysWriting  (v_m : OV) (a1 : Int32) (post : OV → Prop) : Prop := (∀ v_m1 : OV, v_m1 = sa v_m 1 (upd (v_m.2.1 1) ((11 : Int32)).toNatClampNeg a1) → (PX9_begins v_m1 (fun v_m2 => (PX9_goFor v_m2 ((61 : Int32)) (fun v_m4 => (PX9_copies v_m4 11 4 61 4 (fun v_m6 => (PX9_laysBack v_m6 (fun v_m8 => post v_m8)))))))))
set_option maxRecDepth 100000 in
set_option maxHeartbeats 1000000 in
theorem ctX9_laysWriting {l : Launch} {D : va_G} {tc : Nat → ClassId} {Z : (Nat → Nat) × (Nat → Nat)}  {ad_m : Nat → Nat} {v_m : OV} {a1 : Int32}    {post : OV → Prop} (h : PX9_laysWriting  v_m a1 post) : CTv l D tc Z yX9_laysWriting (Cond.code yX9_laysWriting cX9_laysWriting 2 none :: kn_all) rmX9_laysWriting 0 0 [.ref (ad_m 0), .int a1] [(kModel, ad_m, v_m)] (fun (u : OV) => [(kModel, ad_m, u)]) (fun (u : OV) => post u) := by
  refine kn_ofv (cc := cX9_laysWriting) (nL := 2) (ret := none) (lv := [(0, .ref (ad_m 0)), (1, .int a1)]) (by decide) (Nat.le_of_ble_eq_true rfl) rfl (fun p e s m below meth c ls X I hl _ => ?_)
  obtain ⟨S0, hr, hlocks, hK, hZ, hA⟩ := id X
  obtain ⟨hx, hb, hml, hown, hts⟩ := id S0
  unfold PX9_laysWriting at h
  refine lv_aload_n hx hb (kn_dec tX9_laysWriting 0 rfl) rfl (lv_at hl 0 rfl) ?_
  refine kw_getl hx hb hts inX9 hown hK I 0 rfl rfl 1 (by decide) rfl (hts _ q4_201) (kn_dec tX9_laysWriting 1 rfl) rfl ?_
  refine lv_bipush (v := (11)) hx hb (kn_dec tX9_laysWriting 2 rfl) (by decide) ?_
  refine lv_iload_n hx hb (kn_dec tX9_laysWriting 3 rfl) rfl (lv_at hl 1 rfl) ?_
  refine kw_iast hx hb hK I 0 rfl 1 12 (List.mem_of_getElem? (i := 0) rfl) ukModel_1 (by unfold vp_in; decide) (kn_dec tX9_laysWriting 4 rfl) (fun v_m1 ev_m1 H locs I => ?_)
  have h := h v_m1 ev_m1
  have I : kn_I D tc (kn_A _ s.heap.size) s.heap [(kModel, ad_m, _)] _ _ := I
  refine lv_aload_n hx hb (kn_dec tX9_laysWriting 5 rfl) rfl (lv_at hl 0 rfl) ?_
  refine kw_callv (wc := [(kModel, ad_m, _)]) (wr := []) I hA [0] [] rfl rfl (by decide) (by decide) (kn_runV (As := []) S0 hK hZ hA I ((ctX9_begins h).met _) (kn_cwV 0 hts q6_15 q6_17 q0_44 q1_10 q6_18 rfl rfl (by decide +kernel) ⟨(Nat.le_of_ble_eq_true rfl), (Nat.le_of_ble_eq_true rfl)⟩) [0] rfl (by decide) 0 rfl rfl rfl rfl hl.1 rfl (Nat.le_of_ble_eq_true rfl) (kn_dec tX9_laysWriting 6 rfl) ⟨(Nat.le_of_ble_eq_true rfl), (Nat.le_of_ble_eq_true rfl)⟩) (fun u3 H locs h I => ?_)
  have I : kn_I D tc (kn_A _ s.heap.size) s.heap [(kModel, ad_m, _)] _ _ := I
  refine lv_aload_n hx hb (kn_dec tX9_laysWriting 7 rfl) rfl (lv_at hl 0 rfl) ?_
  refine lv_bipush (v := (61)) hx hb (kn_dec tX9_laysWriting 8 rfl) (by decide) ?_
  refine kw_callv (wc := [(kModel, ad_m, _)]) (wr := []) I hA [0] [] rfl rfl (by decide) (by decide) (kn_runV (As := [.int _]) S0 hK hZ hA I ((ctX9_goFor h).met _) (kn_cwV 1 hts q7_9 q7_11 q0_81 q1_10 q7_12 rfl rfl (by decide +kernel) ⟨(Nat.le_of_ble_eq_true rfl), (Nat.le_of_ble_eq_true rfl)⟩) [0] rfl (by decide) 0 rfl rfl rfl rfl hl.1 rfl (Nat.le_of_ble_eq_true rfl) (kn_dec tX9_laysWriting 9 rfl) ⟨(Nat.le_of_ble_eq_true rfl), (Nat.le_of_ble_eq_true rfl)⟩) (fun u5 H locs h I => ?_)
  have I : kn_I D tc (kn_A _ s.heap.size) s.heap [(kModel, ad_m, _)] _ _ := I
  refine lv_aload_n hx hb (kn_dec tX9_laysWriting 10 rfl) rfl (lv_at hl 0 rfl) ?_
  refine kw_getl hx hb hts inX9 hown hK I 0 rfl rfl 11 (by decide) rfl (hts _ q4_211) (kn_dec tX9_laysWriting 11 rfl) rfl ?_
  refine lv_aload_n hx hb (kn_dec tX9_laysWriting 12 rfl) rfl (lv_at hl 0 rfl) ?_
  refine kw_getl hx hb hts inX9 hown hK I 0 rfl rfl 61 (by decide) rfl (hts _ q5_21) (kn_dec tX9_laysWriting 13 rfl) rfl ?_
  refine kw_callv (wc := [(kModel, ad_m, _)]) (wr := []) I hA [0] [] rfl rfl (by decide) (by decide) (kn_runS (As := [.ref (ad_m (11 + 1)), .ref (ad_m (61 + 1))]) S0 hK hZ hA I ((ctX9_copies (List.mem_of_getElem? (i := 10) rfl) ukModel_11 (List.mem_of_getElem? (i := 44) rfl) ukModel_61 h).met _) (kn_cwS 2 hts q6_12 q6_13 q1_10 q6_14 rfl rfl (by decide +kernel) ⟨(Nat.le_of_ble_eq_true rfl), (Nat.le_of_ble_eq_true rfl)⟩) [0] rfl (by decide) rfl hl.1 rfl (Nat.le_of_ble_eq_true rfl) (kn_dec tX9_laysWriting 14 rfl) ⟨(Nat.le_of_ble_eq_true rfl), (Nat.le_of_ble_eq_true rfl)⟩) (fun u7 H locs h I => ?_)
  have I : kn_I D tc (kn_A _ s.heap.size) s.heap [(kModel, ad_m, _)] _ _ := I
  refine lv_aload_n hx hb (kn_dec tX9_laysWriting 15 rfl) rfl (lv_at hl 0 rfl) ?_
  refine kw_callv (wc := [(kModel, ad_m, _)]) (wr := []) I hA [0] [] rfl rfl (by decide) (by decide) (kn_runV (As := []) S0 hK hZ hA I ((ctX9_laysBack h).met _) (kn_cwV 0 hts q7_13 q7_15 q0_82 q1_10 q7_16 rfl rfl (by decide +kernel) ⟨(Nat.le_of_ble_eq_true rfl), (Nat.le_of_ble_eq_true rfl)⟩) [0] rfl (by decide) 0 rfl rfl rfl rfl hl.1 rfl (Nat.le_of_ble_eq_true rfl) (kn_dec tX9_laysWriting 16 rfl) ⟨(Nat.le_of_ble_eq_true rfl), (Nat.le_of_ble_eq_true rfl)⟩) (fun u9 H locs h I => ?_)
  have I : kn_I D tc (kn_A _ s.heap.size) s.heap [(kModel, ad_m, _)] _ _ := I
  exact kw_vret hx hb hr hlocks I _ rfl h (kn_dec tX9_laysWriting 17 rfl)

/-! X9_areNamesSo -/
abbrev rmX9_areNamesSo : Room := { frames := 0, cells := 0, slots := 0, locals := 0 }
def PX9_areNamesSo_L2 (v_m : OV)  (post : Int32 → Prop) : Nat → Int32 → Prop
  | 0, _ => False
  | n + 1, y1 => (((v_m.2.1 1 ((9 : Int32)).toNatClampNeg) ≤ y1 → post ((1 : Int32))) ∧ (¬ (v_m.2.1 1 ((9 : Int32)).toNatClampNeg) ≤ y1 → (vp_in y1 10 ∧ (vp_in (v_m.2.1 16 y1.toNatClampNeg) 4 ∧ (vp_in y1 10 ∧ (((v_m.2.1 61 (v_m.2.1 16 y1.toNatClampNeg).toNatClampNeg) = (v_m.2.1 15 y1.toNatClampNeg) → (∀ x6 : Int32, x6 = y1 + (1 : Int32) → PX9_areNamesSo_L2 v_m post n x6)) ∧ (¬ (v_m.2.1 61 (v_m.2.1 16 y1.toNatClampNeg).toNatClampNeg) = (v_m.2.1 15 y1.toNatClampNeg) → post ((0 : Int32)))))))))
set_option maxRecDepth 100000 in
set_option maxHeartbeats 1000000 in
theorem wX9_areNamesSo_L2 {v_m : OV}  {post : Int32 → Prop} {ad_m : Nat → Nat} (X : kn_X p s m args meth c cX9_areNamesSo 2 (some .boolean) RX9 kn_all D tc Z (kn_A w0 s.heap.size))    : ∀ n : Nat, ∀ (H : Heap) (locs : List Loc) (ls : Array Slot) (y1 : Int32), kn_I D tc (kn_A w0 s.heap.size) s.heap [(kModel, ad_m, v_m)] H locs → lv_has ls 2 [(0, .ref (ad_m 0)), (1, .int y1)] → PX9_areNamesSo_L2 v_m post n y1 → W p l e rmX9_areNamesSo s m args below meth c H locs 0 0 (kn_Qi D tc w0 (fun (u : Unit) => [(kModel, ad_m, v_m)]) (fun (r : Int32) (u : Unit) => (r = 0 ∨ r = 1) ∧ post r) below args s 0 0) (F0 m 2 ls []) := by
  obtain ⟨S0, hr, hlocks, hK, hZ, hA⟩ := id X
  obtain ⟨hx, hb, hml, hown, hts⟩ := id S0
  intro n
  induction n with
  | zero =>
    intro H locs ls y1 I hl h
    unfold PX9_areNamesSo_L2 at h
    exact h.elim
  | succ n ih =>
    intro H locs ls y1 I hl h
    unfold PX9_areNamesSo_L2 at h
    refine lv_iload_n hx hb (kn_dec tX9_areNamesSo 2 rfl) rfl (lv_at hl 1 rfl) ?_
    refine lv_aload_n hx hb (kn_dec tX9_areNamesSo 3 rfl) rfl (lv_at hl 0 rfl) ?_
    refine kw_getl hx hb hts inX9 hown hK I 0 rfl rfl 1 (by decide) rfl (hts _ q4_201) (kn_dec tX9_areNamesSo 4 rfl) rfl ?_
    refine lv_bipush (v := (9)) hx hb (kn_dec tX9_areNamesSo 5 rfl) (by decide) ?_
    refine kw_iald hx hb hK I 0 rfl 1 12 (List.mem_of_getElem? (i := 0) rfl) (by unfold vp_in; decide) (kn_dec tX9_areNamesSo 6 rfl) ?_
    refine lv_icmp_ge (tgt := 41) hx hb (kn_dec tX9_areNamesSo 7 rfl) (by decide) (fun c1 => ?_) (fun c1 => ?_)
    · have h := h.1 c1
      refine lv_iconst (v := (1)) hx hb (kn_dec tX9_areNamesSo 24 rfl) (by decide) ?_
      exact kw_zret hx hb hr (kn_nz (Or.inr rfl)) hlocks I () rfl ⟨(Or.inr rfl), h⟩ (kn_dec tX9_areNamesSo 25 rfl)
    · have h := h.2 c1
      refine lv_aload_n hx hb (kn_dec tX9_areNamesSo 8 rfl) rfl (lv_at hl 0 rfl) ?_
      refine kw_getl hx hb hts inX9 hown hK I 0 rfl rfl 61 (by decide) rfl (hts _ q5_21) (kn_dec tX9_areNamesSo 9 rfl) rfl ?_
      refine lv_aload_n hx hb (kn_dec tX9_areNamesSo 10 rfl) rfl (lv_at hl 0 rfl) ?_
      refine kw_getl hx hb hts inX9 hown hK I 0 rfl rfl 16 (by decide) rfl (hts _ q4_216) (kn_dec tX9_areNamesSo 11 rfl) rfl ?_
      refine lv_iload_n hx hb (kn_dec tX9_areNamesSo 12 rfl) rfl (lv_at hl 1 rfl) ?_
      obtain ⟨hs2, h⟩ := h
      refine kw_iald hx hb hK I 0 rfl 16 10 (List.mem_of_getElem? (i := 15) rfl) hs2 (kn_dec tX9_areNamesSo 13 rfl) ?_
      obtain ⟨hs3, h⟩ := h
      refine kw_iald hx hb hK I 0 rfl 61 4 (List.mem_of_getElem? (i := 44) rfl) hs3 (kn_dec tX9_areNamesSo 14 rfl) ?_
      refine lv_aload_n hx hb (kn_dec tX9_areNamesSo 15 rfl) rfl (lv_at hl 0 rfl) ?_
      refine kw_getl hx hb hts inX9 hown hK I 0 rfl rfl 15 (by decide) rfl (hts _ q4_215) (kn_dec tX9_areNamesSo 16 rfl) rfl ?_
      refine lv_iload_n hx hb (kn_dec tX9_areNamesSo 17 rfl) rfl (lv_at hl 1 rfl) ?_
      obtain ⟨hs4, h⟩ := h
      refine kw_iald hx hb hK I 0 rfl 15 10 (List.mem_of_getElem? (i := 14) rfl) hs4 (kn_dec tX9_areNamesSo 18 rfl) ?_
      refine lv_icmp_eq (tgt := 35) hx hb (kn_dec tX9_areNamesSo 19 rfl) (by decide) (fun c5 => ?_) (fun c5 => ?_)
      · have h := h.1 c5
        refine kw_iinc (lvf := fun y => [(1, .int y), (0, .ref (ad_m 0))]) (nv := (1)) hx hb (kn_dec tX9_areNamesSo 22 rfl) hl (k := 1) rfl (by decide) (by decide) (fun _ => rfl) (fun x6 ex6 ls hl => ?_)
        have h := h x6 ex6
        refine lv_goto (tgt := 2) hx hb (kn_dec tX9_areNamesSo 23 rfl) (by decide) ?_
        exact ih _ _ _ _  I (lv_sub hl [1, 0] rfl) h
      · have h := h.2 c5
        refine lv_iconst (v := (0)) hx hb (kn_dec tX9_areNamesSo 20 rfl) (by decide) ?_
        exact kw_zret hx hb hr (kn_nz (Or.inl rfl)) hlocks I () rfl ⟨(Or.inl rfl), h⟩ (kn_dec tX9_areNamesSo 21 rfl)
def PX9_areNamesSo  (v_m : OV) (post : Int32 → Prop) : Prop := (∃ n1 : Nat, PX9_areNamesSo_L2 v_m post n1 ((0 : Int32)))
set_option maxRecDepth 100000 in
set_option maxHeartbeats 1000000 in
theorem ctX9_areNamesSo {l : Launch} {D : va_G} {tc : Nat → ClassId} {Z : (Nat → Nat) × (Nat → Nat)}  {ad_m : Nat → Nat} {v_m : OV}    {post : Int32 → Prop} (h : PX9_areNamesSo  v_m post) : CTi l D tc Z yX9_areNamesSo (Cond.code yX9_areNamesSo cX9_areNamesSo 2 (some .boolean) :: kn_all) rmX9_areNamesSo 0 0 [.ref (ad_m 0)] [(kModel, ad_m, v_m)] (fun (u : Unit) => [(kModel, ad_m, v_m)]) (fun (r : Int32) (u : Unit) => (r = 0 ∨ r = 1) ∧ post r) := by
  refine kn_ofi (cc := cX9_areNamesSo) (nL := 2) (ret := (some .boolean)) (lv := [(0, .ref (ad_m 0))]) (by decide) (Nat.le_of_ble_eq_true rfl) rfl (fun p e s m below meth c ls X I hl _ => ?_)
  obtain ⟨S0, hr, hlocks, hK, hZ, hA⟩ := id X
  obtain ⟨hx, hb, hml, hown, hts⟩ := id S0
  unfold PX9_areNamesSo at h
  refine lv_iconst (v := (0)) hx hb (kn_dec tX9_areNamesSo 0 rfl) (by decide) ?_
  refine lv_istore_n (lv' := [(1, .int _), (0, .ref (ad_m 0))]) hx hb (kn_dec tX9_areNamesSo 1 rfl) rfl hl (by decide) rfl (fun ls hl => ?_)
  obtain ⟨n1, h⟩ := h
  exact wX9_areNamesSo_L2 X n1 _ _ _ _  I (lv_sub hl [1, 0] rfl) h

/-! X9_ruled -/
abbrev rmX9_ruled : Room := { frames := 10, cells := 0, slots := 0, locals := 228 }
def PX9_ruled_L32   (post : Int32 → OV → Prop) : Nat → Int32 → Int32 → Int32 → Int32 → OV → Prop
  | 0, _, _, _, _, _ => False
  | n + 1, y1, y2, y3, y4, v_m => (((v_m.1 34) ≤ y4 → ((¬ y1 = ((0 : Int32)) → post y3 v_m) ∧ (y1 = ((0 : Int32)) → post y2 v_m))) ∧ (¬ (v_m.1 34) ≤ y4 → (PX9_laysWriting v_m y4 (fun v_m3 => (PX9_areNamesSo v_m3 (fun r5 => ((r5 = ((0 : Int32)) → (∀ x8 : Int32, x8 = y4 + (1 : Int32) → PX9_ruled_L32 post n y1 y2 y3 x8 v_m3)) ∧ (¬ r5 = ((0 : Int32)) → ((¬ y2 = ((0 : Int32)) → (∀ x10 : Int32, x10 = y2 + (1 : Int32) → (∀ x11 : Int32, x11 = y4 + (1 : Int32) → PX9_ruled_L32 post n y1 x10 y3 x11 v_m3))) ∧ (y2 = ((0 : Int32)) → (∀ x12 : Int32, x12 = y2 + (1 : Int32) → (∀ x13 : Int32, x13 = y4 + (1 : Int32) → PX9_ruled_L32 post n y1 x12 y4 x13 v_m3))))))))))))
set_option maxRecDepth 100000 in
set_option maxHeartbeats 1000000 in
theorem wX9_ruled_L32   {post : Int32 → OV → Prop} {ad_m : Nat → Nat} (X : kn_X p s m args meth c cX9_ruled 5 (some .int) RX9 kn_all D tc Z (kn_A w0 s.heap.size))    : ∀ n : Nat, ∀ (H : Heap) (locs : List Loc) (ls : Array Slot) (y1 : Int32) (y2 : Int32) (y3 : Int32) (y4 : Int32) (v_m : OV), kn_I D tc (kn_A w0 s.heap.size) s.heap [(kModel, ad_m, v_m)] H locs → lv_has ls 5 [(0, .ref (ad_m 0)), (1, .int y1), (2, .int y2), (3, .int y3), (4, .int y4)] → PX9_ruled_L32 post n y1 y2 y3 y4 v_m → W p l e rmX9_ruled s m args below meth c H locs 0 0 (kn_Qi D tc w0 (fun (u : OV) => [(kModel, ad_m, u)]) (fun (r : Int32) (u : OV) => post r u) below args s 0 0) (F0 m 32 ls []) := by
  obtain ⟨S0, hr, hlocks, hK, hZ, hA⟩ := id X
  obtain ⟨hx, hb, hml, hown, hts⟩ := id S0
  intro n
  induction n with
  | zero =>
    intro H locs ls y1 y2 y3 y4 v_m I hl h
    unfold PX9_ruled_L32 at h
    exact h.elim
  | succ n ih =>
    intro H locs ls y1 y2 y3 y4 v_m I hl h
    unfold PX9_ruled_L32 at h
    refine lv_iload hx hb (kn_dec tX9_ruled 19 rfl) (lv_at hl 4 rfl) ?_
    refine lv_aload_n hx hb (kn_dec tX9_ruled 20 rfl) rfl (lv_at hl 0 rfl) ?_
    refine kw_geti hx hb hts inX9 hown hK I 0 rfl rfl 34 (by decide) rfl (hts _ q4_234) (kn_dec tX9_ruled 21 rfl) ?_
    refine lv_icmp_ge (tgt := 74) hx hb (kn_dec tX9_ruled 22 rfl) (by decide) (fun c1 => ?_) (fun c1 => ?_)
    · have h := h.1 c1
      refine lv_iload_n hx hb (kn_dec tX9_ruled 38 rfl) rfl (lv_at hl 1 rfl) ?_
      refine lv_if_ne (tgt := 82) hx hb (kn_dec tX9_ruled 39 rfl) (by decide) (fun c2 => ?_) (fun c2 => ?_)
      · have h := h.1 c2
        refine lv_iload_n hx hb (kn_dec tX9_ruled 42 rfl) rfl (lv_at hl 3 rfl) ?_
        exact kw_iret hx hb hr hlocks I _ rfl h (kn_dec tX9_ruled 43 rfl)
      · have h := h.2 c2
        refine lv_iload_n hx hb (kn_dec tX9_ruled 40 rfl) rfl (lv_at hl 2 rfl) ?_
        refine lv_goto (tgt := 83) hx hb (kn_dec tX9_ruled 41 rfl) (by decide) ?_
        exact kw_iret hx hb hr hlocks I _ rfl h (kn_dec tX9_ruled 43 rfl)
    · have h := h.2 c1
      refine lv_aload_n hx hb (kn_dec tX9_ruled 23 rfl) rfl (lv_at hl 0 rfl) ?_
      refine lv_iload hx hb (kn_dec tX9_ruled 24 rfl) (lv_at hl 4 rfl) ?_
      refine kw_callv (wc := [(kModel, ad_m, _)]) (wr := []) I hA [0] [] rfl rfl (by decide) (by decide) (kn_runV (As := [.int _]) S0 hK hZ hA I ((ctX9_laysWriting h).met _) (kn_cwV 1 hts q7_77 q7_79 q0_85 q1_10 q7_80 rfl rfl (by decide +kernel) ⟨(Nat.le_of_ble_eq_true rfl), (Nat.le_of_ble_eq_true rfl)⟩) [0] rfl (by decide) 0 rfl rfl rfl rfl hl.1 rfl (Nat.le_of_ble_eq_true rfl) (kn_dec tX9_ruled 25 rfl) ⟨(Nat.le_of_ble_eq_true rfl), (Nat.le_of_ble_eq_true rfl)⟩) (fun u4 H locs h I => ?_)
      have I : kn_I D tc (kn_A w0 s.heap.size) s.heap [(kModel, ad_m, _)] _ _ := I
      refine lv_aload_n hx hb (kn_dec tX9_ruled 26 rfl) rfl (lv_at hl 0 rfl) ?_
      refine kw_calli (wc := [(kModel, ad_m, _)]) (wr := []) I hA [0] [] rfl rfl (by decide) (by decide) (kn_runV (As := []) S0 hK hZ hA I ((ctX9_areNamesSo h).met _) (kn_cwV 0 hts q7_81 q7_83 q0_86 q1_10 q7_84 rfl rfl (by decide +kernel) ⟨(Nat.le_of_ble_eq_true rfl), (Nat.le_of_ble_eq_true rfl)⟩) [0] rfl (by decide) 0 rfl rfl rfl rfl hl.1 rfl (Nat.le_of_ble_eq_true rfl) (kn_dec tX9_ruled 27 rfl) ⟨(Nat.le_of_ble_eq_true rfl), (Nat.le_of_ble_eq_true rfl)⟩) (fun r5 u6 H locs h I => ?_)
      obtain ⟨hz_r5, h⟩ := h
      have I : kn_I D tc (kn_A w0 s.heap.size) s.heap [(kModel, ad_m, _)] _ _ := I
      refine lv_if_eq (tgt := 68) hx hb (kn_dec tX9_ruled 28 rfl) (by decide) (fun c7 => ?_) (fun c7 => ?_)
      · have h := h.1 c7
        refine kw_iinc (lvf := fun y => [(4, .int y), (0, .ref (ad_m 0)), (1, .int _), (2, .int _), (3, .int _)]) (nv := (1)) hx hb (kn_dec tX9_ruled 36 rfl) hl (k := 4) rfl (by decide) (by decide) (fun _ => rfl) (fun x8 ex8 ls hl => ?_)
        have h := h x8 ex8
        refine lv_goto (tgt := 32) hx hb (kn_dec tX9_ruled 37 rfl) (by decide) ?_
        exact ih _ _ _ _ _ _ _ _  I (lv_sub hl [1, 2, 3, 4, 0] rfl) h
      · have h := h.2 c7
        refine lv_iload_n hx hb (kn_dec tX9_ruled 29 rfl) rfl (lv_at hl 2 rfl) ?_
        refine lv_if_ne (tgt := 63) hx hb (kn_dec tX9_ruled 30 rfl) (by decide) (fun c9 => ?_) (fun c9 => ?_)
        · have h := h.1 c9
          refine lv_iload_n hx hb (kn_dec tX9_ruled 33 rfl) rfl (lv_at hl 3 rfl) ?_
          refine lv_istore_n (lv' := [(3, .int _), (0, .ref (ad_m 0)), (1, .int _), (2, .int _), (4, .int _)]) hx hb (kn_dec tX9_ruled 34 rfl) rfl hl (by decide) rfl (fun ls hl => ?_)
          refine kw_iinc (lvf := fun y => [(2, .int y), (3, .int _), (0, .ref (ad_m 0)), (1, .int _), (4, .int _)]) (nv := (1)) hx hb (kn_dec tX9_ruled 35 rfl) hl (k := 3) rfl (by decide) (by decide) (fun _ => rfl) (fun x10 ex10 ls hl => ?_)
          have h := h x10 ex10
          refine kw_iinc (lvf := fun y => [(4, .int y), (2, .int _), (3, .int _), (0, .ref (ad_m 0)), (1, .int _)]) (nv := (1)) hx hb (kn_dec tX9_ruled 36 rfl) hl (k := 4) rfl (by decide) (by decide) (fun _ => rfl) (fun x11 ex11 ls hl => ?_)
          have h := h x11 ex11
          refine lv_goto (tgt := 32) hx hb (kn_dec tX9_ruled 37 rfl) (by decide) ?_
          exact ih _ _ _ _ _ _ _ _  I (lv_sub hl [3, 4, 1, 2, 0] rfl) h
        · have h := h.2 c9
          refine lv_iload hx hb (kn_dec tX9_ruled 31 rfl) (lv_at hl 4 rfl) ?_
          refine lv_goto (tgt := 64) hx hb (kn_dec tX9_ruled 32 rfl) (by decide) ?_
          refine lv_istore_n (lv' := [(3, .int _), (0, .ref (ad_m 0)), (1, .int _), (2, .int _), (4, .int _)]) hx hb (kn_dec tX9_ruled 34 rfl) rfl hl (by decide) rfl (fun ls hl => ?_)
          refine kw_iinc (lvf := fun y => [(2, .int y), (3, .int _), (0, .ref (ad_m 0)), (1, .int _), (4, .int _)]) (nv := (1)) hx hb (kn_dec tX9_ruled 35 rfl) hl (k := 3) rfl (by decide) (by decide) (fun _ => rfl) (fun x12 ex12 ls hl => ?_)
          have h := h x12 ex12
          refine kw_iinc (lvf := fun y => [(4, .int y), (2, .int _), (3, .int _), (0, .ref (ad_m 0)), (1, .int _)]) (nv := (1)) hx hb (kn_dec tX9_ruled 36 rfl) hl (k := 4) rfl (by decide) (by decide) (fun _ => rfl) (fun x13 ex13 ls hl => ?_)
          have h := h x13 ex13
          refine lv_goto (tgt := 32) hx hb (kn_dec tX9_ruled 37 rfl) (by decide) ?_
          exact ih _ _ _ _ _ _ _ _  I (lv_sub hl [3, 4, 1, 2, 0] rfl) h
def PX9_ruled  (v_m : OV) (a1 : Int32) (post : Int32 → OV → Prop) : Prop := (PX9_isHill v_m (fun r1 => ((r1 = ((0 : Int32)) → post ((-3 : Int32)) v_m) ∧ (¬ r1 = ((0 : Int32)) → (PX9_in a1.toInt64 ((0 : Int64)) ((1 : Int64)) (fun r4 => ((¬ r4 = ((0 : Int32)) → (PX9_keepsAll v_m (fun v_m7 => (∃ n9 : Nat, PX9_ruled_L32 post n9 a1 ((0 : Int32)) ((-2 : Int32)) ((-1 : Int32)) v_m7)))) ∧ (r4 = ((0 : Int32)) → post ((-3 : Int32)) v_m))))))))
set_option maxRecDepth 100000 in
set_option maxHeartbeats 1000000 in
theorem ctX9_ruled {l : Launch} {D : va_G} {tc : Nat → ClassId} {Z : (Nat → Nat) × (Nat → Nat)}  {ad_m : Nat → Nat} {v_m : OV} {a1 : Int32}    {post : Int32 → OV → Prop} (h : PX9_ruled  v_m a1 post) : CTi l D tc Z yX9_ruled (Cond.code yX9_ruled cX9_ruled 5 (some .int) :: kn_all) rmX9_ruled 0 0 [.ref (ad_m 0), .int a1] [(kModel, ad_m, v_m)] (fun (u : OV) => [(kModel, ad_m, u)]) (fun (r : Int32) (u : OV) => post r u) := by
  refine kn_ofi (cc := cX9_ruled) (nL := 5) (ret := (some .int)) (lv := [(0, .ref (ad_m 0)), (1, .int a1)]) (by decide) (Nat.le_of_ble_eq_true rfl) rfl (fun p e s m below meth c ls X I hl _ => ?_)
  obtain ⟨S0, hr, hlocks, hK, hZ, hA⟩ := id X
  obtain ⟨hx, hb, hml, hown, hts⟩ := id S0
  unfold PX9_ruled at h
  refine lv_aload_n hx hb (kn_dec tX9_ruled 0 rfl) rfl (lv_at hl 0 rfl) ?_
  refine kw_calli (wc := [(kModel, ad_m, _)]) (wr := []) I hA [0] [] rfl rfl (by decide) (by decide) (kn_runV (As := []) S0 hK hZ hA I ((ctX9_isHill h).met _) (kn_cwV 0 hts q6_147 q6_149 q0_64 q1_10 q6_150 rfl rfl (by decide +kernel) ⟨(Nat.le_of_ble_eq_true rfl), (Nat.le_of_ble_eq_true rfl)⟩) [0] rfl (by decide) 0 rfl rfl rfl rfl hl.1 rfl (Nat.le_of_ble_eq_true rfl) (kn_dec tX9_ruled 1 rfl) ⟨(Nat.le_of_ble_eq_true rfl), (Nat.le_of_ble_eq_true rfl)⟩) (fun r1 u2 H locs h I => ?_)
  obtain ⟨hz_r1, h⟩ := h
  have I : kn_I D tc (kn_A _ s.heap.size) s.heap [(kModel, ad_m, _)] _ _ := I
  refine lv_if_eq (tgt := 17) hx hb (kn_dec tX9_ruled 2 rfl) (by decide) (fun c3 => ?_) (fun c3 => ?_)
  · have h := h.1 c3
    refine lv_bipush (v := (-3)) hx hb (kn_dec tX9_ruled 9 rfl) (by decide) ?_
    exact kw_iret hx hb hr hlocks I _ rfl h (kn_dec tX9_ruled 10 rfl)
  · have h := h.2 c3
    refine lv_iload_n hx hb (kn_dec tX9_ruled 3 rfl) rfl (lv_at hl 1 rfl) ?_
    refine lv_i2l hx hb (kn_dec tX9_ruled 4 rfl) rfl ?_
    refine lv_lconst (v := 0) hx hb (kn_dec tX9_ruled 5 rfl) (by decide) ?_
    refine lv_lconst (v := 1) hx hb (kn_dec tX9_ruled 6 rfl) (by decide) ?_
    refine kw_calli (wc := []) (wr := [(kModel, ad_m, _)]) I hA [] [0] rfl rfl (by decide) (by decide) (kn_runS (As := [.long _, .long _, .long _]) S0 hK hZ hA I ((ctX9_in h).met _) (kn_cwS 3 hts q6_1 q6_2 q1_10 q6_3 rfl rfl (by decide +kernel) ⟨(Nat.le_of_ble_eq_true rfl), (Nat.le_of_ble_eq_true rfl)⟩) [] rfl (by decide) rfl hl.1 rfl (Nat.le_of_ble_eq_true rfl) (kn_dec tX9_ruled 7 rfl) ⟨(Nat.le_of_ble_eq_true rfl), (Nat.le_of_ble_eq_true rfl)⟩) (fun r4 u5 H locs h I => ?_)
    obtain ⟨hz_r4, h⟩ := h
    have I : kn_I D tc (kn_A _ s.heap.size) s.heap [(kModel, ad_m, _)] _ _ := I
    refine lv_if_ne (tgt := 20) hx hb (kn_dec tX9_ruled 8 rfl) (by decide) (fun c6 => ?_) (fun c6 => ?_)
    · have h := h.1 c6
      refine lv_aload_n hx hb (kn_dec tX9_ruled 11 rfl) rfl (lv_at hl 0 rfl) ?_
      refine kw_callv (wc := [(kModel, ad_m, _)]) (wr := []) I hA [0] [] rfl rfl (by decide) (by decide) (kn_runV (As := []) S0 hK hZ hA I ((ctX9_keepsAll h).met _) (kn_cwV 0 hts q6_237 q6_239 q0_78 q1_10 q7_0 rfl rfl (by decide +kernel) ⟨(Nat.le_of_ble_eq_true rfl), (Nat.le_of_ble_eq_true rfl)⟩) [0] rfl (by decide) 0 rfl rfl rfl rfl hl.1 rfl (Nat.le_of_ble_eq_true rfl) (kn_dec tX9_ruled 12 rfl) ⟨(Nat.le_of_ble_eq_true rfl), (Nat.le_of_ble_eq_true rfl)⟩) (fun u8 H locs h I => ?_)
      have I : kn_I D tc (kn_A _ s.heap.size) s.heap [(kModel, ad_m, _)] _ _ := I
      refine lv_iconst (v := (0)) hx hb (kn_dec tX9_ruled 13 rfl) (by decide) ?_
      refine lv_istore_n (lv' := [(2, .int _), (0, .ref (ad_m 0)), (1, .int _)]) hx hb (kn_dec tX9_ruled 14 rfl) rfl hl (by decide) rfl (fun ls hl => ?_)
      refine lv_bipush (v := (-2)) hx hb (kn_dec tX9_ruled 15 rfl) (by decide) ?_
      refine lv_istore_n (lv' := [(3, .int _), (2, .int _), (0, .ref (ad_m 0)), (1, .int _)]) hx hb (kn_dec tX9_ruled 16 rfl) rfl hl (by decide) rfl (fun ls hl => ?_)
      refine lv_iconst (v := (-1)) hx hb (kn_dec tX9_ruled 17 rfl) (by decide) ?_
      refine lv_istore (lv' := [(4, .int _), (3, .int _), (2, .int _), (0, .ref (ad_m 0)), (1, .int _)]) hx hb (kn_dec tX9_ruled 18 rfl) hl (by decide) rfl (fun ls hl => ?_)
      obtain ⟨n9, h⟩ := h
      exact wX9_ruled_L32 X n9 _ _ _ _ _ _ _ _  I (lv_sub hl [3, 4, 2, 1, 0] rfl) h
    · have h := h.2 c6
      refine lv_bipush (v := (-3)) hx hb (kn_dec tX9_ruled 9 rfl) (by decide) ?_
      exact kw_iret hx hb hr hlocks I _ rfl h (kn_dec tX9_ruled 10 rfl)

/-! X9_ask -/
abbrev rmX9_ask : Room := { frames := 10, cells := 0, slots := 0, locals := 228 }
def PX9_ask_b243   (post : Int32 → OV → Prop) (y1 : Int32) (y3 : Int32) (y4 : Int32) (v_m : OV) : Prop := ((¬ y1 = ((0 : Int32)) → post y4 v_m) ∧ (y1 = ((0 : Int32)) → post y3 v_m))
set_option maxRecDepth 100000 in
set_option maxHeartbeats 1000000 in
theorem wX9_ask_b243   {post : Int32 → OV → Prop} {ad_m : Nat → Nat} (X : kn_X p s m args meth c cX9_ask 8 (some .int) RX9 kn_all D tc Z (kn_A w0 s.heap.size))    : ∀ (H : Heap) (locs : List Loc) (ls : Array Slot) (y1 : Int32) (y3 : Int32) (y4 : Int32) (v_m : OV), kn_I D tc (kn_A w0 s.heap.size) s.heap [(kModel, ad_m, v_m)] H locs → lv_has ls 8 [(1, .int y1), (3, .int y3), (4, .int y4)] → PX9_ask_b243 post y1 y3 y4 v_m → W p l e rmX9_ask s m args below meth c H locs 0 0 (kn_Qi D tc w0 (fun (u : OV) => [(kModel, ad_m, u)]) (fun (r : Int32) (u : OV) => post r u) below args s 0 0) (F0 m 243 ls []) := by
  obtain ⟨S0, hr, hlocks, hK, hZ, hA⟩ := id X
  obtain ⟨hx, hb, hml, hown, hts⟩ := id S0
  intro H locs ls y1 y3 y4 v_m I hl h
  unfold PX9_ask_b243 at h
  refine lv_iload_n hx hb (kn_dec tX9_ask_t2 14 rfl) rfl (lv_at hl 0 rfl) ?_
  refine lv_if_ne (tgt := 251) hx hb (kn_dec tX9_ask_t2 15 rfl) (by decide) (fun c1 => ?_) (fun c1 => ?_)
  · have h := h.1 c1
    refine lv_iload hx hb (kn_dec tX9_ask_t2 18 rfl) (lv_at hl 2 rfl) ?_
    exact kw_iret hx hb hr hlocks I _ rfl h (kn_dec tX9_ask_t2 19 rfl)
  · have h := h.2 c1
    refine lv_iload_n hx hb (kn_dec tX9_ask_t2 16 rfl) rfl (lv_at hl 1 rfl) ?_
    refine lv_goto (tgt := 253) hx hb (kn_dec tX9_ask_t2 17 rfl) (by decide) ?_
    exact kw_iret hx hb hr hlocks I _ rfl h (kn_dec tX9_ask_t2 19 rfl)
def PX9_ask_b230  (K148 : Int32 → Int32 → Int32 → Int32 → Int32 → OV → Prop) (post : Int32 → OV → Prop) (y1 : Int32) (y2 : Int32) (y5 : Int32) (y6 : Int32) (v_m : OV) : Prop := (∀ x1 : Int32, x1 = y5 + (1 : Int32) → K148 y1 y2 y5 y6 x1 v_m)
set_option maxRecDepth 100000 in
set_option maxHeartbeats 1000000 in
theorem wX9_ask_b230  {K148 : Int32 → Int32 → Int32 → Int32 → Int32 → OV → Prop} {post : Int32 → OV → Prop} {ad_m : Nat → Nat} (X : kn_X p s m args meth c cX9_ask 8 (some .int) RX9 kn_all D tc Z (kn_A w0 s.heap.size))   (hK148 : ∀ (H : Heap) (locs : List Loc) (ls : Array Slot) (y1 : Int32) (y2 : Int32) (y3 : Int32) (y4 : Int32) (y5 : Int32) (v_m : OV), kn_I D tc (kn_A w0 s.heap.size) s.heap [(kModel, ad_m, v_m)] H locs → lv_has ls 8 [(0, .ref (ad_m 0)), (1, .int y1), (2, .int y2), (3, .int y3), (4, .int y4), (5, .int y5)] → K148 y1 y2 y3 y4 y5 v_m → W p l e rmX9_ask s m args below meth c H locs 0 0 (kn_Qi D tc w0 (fun (u : OV) => [(kModel, ad_m, u)]) (fun (r : Int32) (u : OV) => post r u) below args s 0 0) (F0 m 148 ls [])) : ∀ (H : Heap) (locs : List Loc) (ls : Array Slot) (y1 : Int32) (y2 : Int32) (y5 : Int32) (y6 : Int32) (v_m : OV), kn_I D tc (kn_A w0 s.heap.size) s.heap [(kModel, ad_m, v_m)] H locs → lv_has ls 8 [(0, .ref (ad_m 0)), (1, .int y1), (2, .int y2), (5, .int y5), (6, .int y6)] → PX9_ask_b230 K148 post y1 y2 y5 y6 v_m → W p l e rmX9_ask s m args below meth c H locs 0 0 (kn_Qi D tc w0 (fun (u : OV) => [(kModel, ad_m, u)]) (fun (r : Int32) (u : OV) => post r u) below args s 0 0) (F0 m 230 ls []) := by
  obtain ⟨S0, hr, hlocks, hK, hZ, hA⟩ := id X
  obtain ⟨hx, hb, hml, hown, hts⟩ := id S0
  intro H locs ls y1 y2 y5 y6 v_m I hl h
  unfold PX9_ask_b230 at h
  refine lv_iload hx hb (kn_dec tX9_ask_t2 8 rfl) (lv_at hl 3 rfl) ?_
  refine lv_istore_n (lv' := [(3, .int _), (0, .ref (ad_m 0)), (1, .int _), (2, .int _), (5, .int _), (6, .int _)]) hx hb (kn_dec tX9_ask_t2 9 rfl) rfl hl (by decide) rfl (fun ls hl => ?_)
  refine lv_iload hx hb (kn_dec tX9_ask_t2 10 rfl) (lv_at hl 5 rfl) ?_
  refine lv_istore (lv' := [(4, .int _), (3, .int _), (0, .ref (ad_m 0)), (1, .int _), (2, .int _), (5, .int _), (6, .int _)]) hx hb (kn_dec tX9_ask_t2 11 rfl) hl (by decide) rfl (fun ls hl => ?_)
  refine kw_iinc (lvf := fun y => [(5, .int y), (4, .int _), (3, .int _), (0, .ref (ad_m 0)), (1, .int _), (2, .int _), (6, .int _)]) (nv := (1)) hx hb (kn_dec tX9_ask_t2 12 rfl) hl (k := 5) rfl (by decide) (by decide) (fun _ => rfl) (fun x1 ex1 ls hl => ?_)
  have h := h x1 ex1
  refine lv_goto (tgt := 148) hx hb (kn_dec tX9_ask_t2 13 rfl) (by decide) ?_
  exact hK148 _ _ _ _ _ _ _ _ _  I (lv_sub hl [3, 4, 5, 2, 1, 0] rfl) h
def PX9_ask_L173  (K148 : Int32 → Int32 → Int32 → Int32 → Int32 → OV → Prop) (post : Int32 → OV → Prop) : Nat → Int32 → Int32 → Int32 → Int32 → Int32 → Int32 → Int32 → OV → Prop
  | 0, _, _, _, _, _, _, _, _ => False
  | n + 1, y1, y2, y3, y4, y5, y6, y7, v_m => (((((62 : Int32)) * (y5 + ((1 : Int32)))) ≤ y7 → ((y3 = ((-2 : Int32)) → PX9_ask_b230 K148 post y1 y2 y5 y6 v_m) ∧ (¬ y3 = ((-2 : Int32)) → ((y4 ≤ y6 → (∀ x4 : Int32, x4 = y5 + (1 : Int32) → K148 y1 y2 y3 y4 x4 v_m)) ∧ (¬ y4 ≤ y6 → PX9_ask_b230 K148 post y1 y2 y5 y6 v_m))))) ∧ (¬ (((62 : Int32)) * (y5 + ((1 : Int32)))) ≤ y7 → (vp_in y7 248 ∧ (((v_m.2.1 62 y7.toNatClampNeg) ≤ y6 → (∀ x7 : Int32, x7 = y7 + (1 : Int32) → PX9_ask_L173 K148 post n y1 y2 y3 y4 y5 y6 x7 v_m)) ∧ (¬ (v_m.2.1 62 y7.toNatClampNeg) ≤ y6 → (vp_in y7 248 ∧ (∀ x9 : Int32, x9 = (v_m.2.1 62 y7.toNatClampNeg) → (∀ x10 : Int32, x10 = y7 + (1 : Int32) → PX9_ask_L173 K148 post n y1 y2 y3 y4 y5 x9 x10 v_m))))))))
set_option maxRecDepth 100000 in
set_option maxHeartbeats 1000000 in
theorem wX9_ask_L173  {K148 : Int32 → Int32 → Int32 → Int32 → Int32 → OV → Prop} {post : Int32 → OV → Prop} {ad_m : Nat → Nat} (X : kn_X p s m args meth c cX9_ask 8 (some .int) RX9 kn_all D tc Z (kn_A w0 s.heap.size))   (hK148 : ∀ (H : Heap) (locs : List Loc) (ls : Array Slot) (y1 : Int32) (y2 : Int32) (y3 : Int32) (y4 : Int32) (y5 : Int32) (v_m : OV), kn_I D tc (kn_A w0 s.heap.size) s.heap [(kModel, ad_m, v_m)] H locs → lv_has ls 8 [(0, .ref (ad_m 0)), (1, .int y1), (2, .int y2), (3, .int y3), (4, .int y4), (5, .int y5)] → K148 y1 y2 y3 y4 y5 v_m → W p l e rmX9_ask s m args below meth c H locs 0 0 (kn_Qi D tc w0 (fun (u : OV) => [(kModel, ad_m, u)]) (fun (r : Int32) (u : OV) => post r u) below args s 0 0) (F0 m 148 ls [])) : ∀ n : Nat, ∀ (H : Heap) (locs : List Loc) (ls : Array Slot) (y1 : Int32) (y2 : Int32) (y3 : Int32) (y4 : Int32) (y5 : Int32) (y6 : Int32) (y7 : Int32) (v_m : OV), kn_I D tc (kn_A w0 s.heap.size) s.heap [(kModel, ad_m, v_m)] H locs → lv_has ls 8 [(0, .ref (ad_m 0)), (1, .int y1), (2, .int y2), (3, .int y3), (4, .int y4), (5, .int y5), (6, .int y6), (7, .int y7)] → PX9_ask_L173 K148 post n y1 y2 y3 y4 y5 y6 y7 v_m → W p l e rmX9_ask s m args below meth c H locs 0 0 (kn_Qi D tc w0 (fun (u : OV) => [(kModel, ad_m, u)]) (fun (r : Int32) (u : OV) => post r u) below args s 0 0) (F0 m 173 ls []) := by
  obtain ⟨S0, hr, hlocks, hK, hZ, hA⟩ := id X
  obtain ⟨hx, hb, hml, hown, hts⟩ := id S0
  intro n
  induction n with
  | zero =>
    intro H locs ls y1 y2 y3 y4 y5 y6 y7 v_m I hl h
    unfold PX9_ask_L173 at h
    exact h.elim
  | succ n ih =>
    intro H locs ls y1 y2 y3 y4 y5 y6 y7 v_m I hl h
    unfold PX9_ask_L173 at h
    refine lv_iload hx hb (kn_dec tX9_ask_t1 40 rfl) (lv_at hl 7 rfl) ?_
    refine lv_bipush (v := (62)) hx hb (kn_dec tX9_ask_t1 41 rfl) (by decide) ?_
    refine lv_iload hx hb (kn_dec tX9_ask_t1 42 rfl) (lv_at hl 5 rfl) ?_
    refine lv_iconst (v := (1)) hx hb (kn_dec tX9_ask_t1 43 rfl) (by decide) ?_
    refine lv_iadd hx hb (kn_dec tX9_ask_t1 44 rfl) ?_
    refine lv_imul hx hb (kn_dec tX9_ask_t1 45 rfl) ?_
    refine lv_icmp_ge (tgt := 217) hx hb (kn_dec tX9_ask_t1 46 rfl) (by decide) (fun c1 => ?_) (fun c1 => ?_)
    · have h := h.1 c1
      refine lv_iload_n hx hb (kn_dec tX9_ask_t2 2 rfl) rfl (lv_at hl 3 rfl) ?_
      refine lv_bipush (v := (-2)) hx hb (kn_dec tX9_ask_t2 3 rfl) (by decide) ?_
      refine lv_icmp_eq (tgt := 230) hx hb (kn_dec tX9_ask_t2 4 rfl) (by decide) (fun c2 => ?_) (fun c2 => ?_)
      · have h := h.1 c2
        exact wX9_ask_b230 X hK148 _ _ _ _ _ _ _ _  I (lv_sub hl [0, 1, 2, 5, 6] rfl) h
      · have h := h.2 c2
        refine lv_iload hx hb (kn_dec tX9_ask_t2 5 rfl) (lv_at hl 6 rfl) ?_
        refine lv_iload hx hb (kn_dec tX9_ask_t2 6 rfl) (lv_at hl 4 rfl) ?_
        refine lv_icmp_ge (tgt := 237) hx hb (kn_dec tX9_ask_t2 7 rfl) (by decide) (fun c3 => ?_) (fun c3 => ?_)
        · have h := h.1 c3
          refine kw_iinc (lvf := fun y => [(5, .int y), (0, .ref (ad_m 0)), (1, .int _), (2, .int _), (3, .int _), (4, .int _), (6, .int _), (7, .int _)]) (nv := (1)) hx hb (kn_dec tX9_ask_t2 12 rfl) hl (k := 5) rfl (by decide) (by decide) (fun _ => rfl) (fun x4 ex4 ls hl => ?_)
          have h := h x4 ex4
          refine lv_goto (tgt := 148) hx hb (kn_dec tX9_ask_t2 13 rfl) (by decide) ?_
          exact hK148 _ _ _ _ _ _ _ _ _  I (lv_sub hl [1, 2, 3, 4, 5, 0] rfl) h
        · have h := h.2 c3
          exact wX9_ask_b230 X hK148 _ _ _ _ _ _ _ _  I (lv_sub hl [0, 1, 2, 5, 6] rfl) h
    · have h := h.2 c1
      refine lv_aload_n hx hb (kn_dec tX9_ask_t1 47 rfl) rfl (lv_at hl 0 rfl) ?_
      refine kw_getl hx hb hts inX9 hown hK I 0 rfl rfl 62 (by decide) rfl (hts _ q5_22) (kn_dec tX9_ask_t1 48 rfl) rfl ?_
      refine lv_iload hx hb (kn_dec tX9_ask_t1 49 rfl) (lv_at hl 7 rfl) ?_
      obtain ⟨hs5, h⟩ := h
      refine kw_iald hx hb hK I 0 rfl 62 248 (List.mem_of_getElem? (i := 45) rfl) hs5 (kn_dec tX9_ask_t1 50 rfl) ?_
      refine lv_iload hx hb (kn_dec tX9_ask_t1 51 rfl) (lv_at hl 6 rfl) ?_
      refine lv_icmp_le (tgt := 207) hx hb (kn_dec tX9_ask_t1 52 rfl) (by decide) (fun c6 => ?_) (fun c6 => ?_)
      · have h := h.1 c6
        refine lv_iload hx hb (kn_dec tX9_ask_t1 58 rfl) (lv_at hl 6 rfl) ?_
        refine lv_istore (lv' := [(6, .int _), (0, .ref (ad_m 0)), (1, .int _), (2, .int _), (3, .int _), (4, .int _), (5, .int _), (7, .int _)]) hx hb (kn_dec tX9_ask_t1 59 rfl) hl (by decide) rfl (fun ls hl => ?_)
        refine kw_iinc (lvf := fun y => [(7, .int y), (6, .int _), (0, .ref (ad_m 0)), (1, .int _), (2, .int _), (3, .int _), (4, .int _), (5, .int _)]) (nv := (1)) hx hb (kn_dec tX9_ask_t2 0 rfl) hl (k := 7) rfl (by decide) (by decide) (fun _ => rfl) (fun x7 ex7 ls hl => ?_)
        have h := h x7 ex7
        refine lv_goto (tgt := 173) hx hb (kn_dec tX9_ask_t2 1 rfl) (by decide) ?_
        exact ih _ _ _ _ _ _ _ _ _ _ _  I (lv_sub hl [2, 3, 4, 5, 6, 7, 1, 0] rfl) h
      · have h := h.2 c6
        refine lv_aload_n hx hb (kn_dec tX9_ask_t1 53 rfl) rfl (lv_at hl 0 rfl) ?_
        refine kw_getl hx hb hts inX9 hown hK I 0 rfl rfl 62 (by decide) rfl (hts _ q5_22) (kn_dec tX9_ask_t1 54 rfl) rfl ?_
        refine lv_iload hx hb (kn_dec tX9_ask_t1 55 rfl) (lv_at hl 7 rfl) ?_
        obtain ⟨hs8, h⟩ := h
        refine kw_iald hx hb hK I 0 rfl 62 248 (List.mem_of_getElem? (i := 45) rfl) hs8 (kn_dec tX9_ask_t1 56 rfl) ?_
        refine lv_goto (tgt := 209) hx hb (kn_dec tX9_ask_t1 57 rfl) (by decide) ?_
        refine lv_topi (fun x9 ex9 => ?_)
        have h := h x9 ex9
        refine lv_istore (lv' := [(6, .int _), (0, .ref (ad_m 0)), (1, .int _), (2, .int _), (3, .int _), (4, .int _), (5, .int _), (7, .int _)]) hx hb (kn_dec tX9_ask_t1 59 rfl) hl (by decide) rfl (fun ls hl => ?_)
        refine kw_iinc (lvf := fun y => [(7, .int y), (6, .int _), (0, .ref (ad_m 0)), (1, .int _), (2, .int _), (3, .int _), (4, .int _), (5, .int _)]) (nv := (1)) hx hb (kn_dec tX9_ask_t2 0 rfl) hl (k := 7) rfl (by decide) (by decide) (fun _ => rfl) (fun x10 ex10 ls hl => ?_)
        have h := h x10 ex10
        refine lv_goto (tgt := 173) hx hb (kn_dec tX9_ask_t2 1 rfl) (by decide) ?_
        exact ih _ _ _ _ _ _ _ _ _ _ _  I (lv_sub hl [2, 3, 4, 5, 6, 7, 1, 0] rfl) h
def PX9_ask_L148   (post : Int32 → OV → Prop) : Nat → Int32 → Int32 → Int32 → Int32 → Int32 → OV → Prop
  | 0, _, _, _, _, _, _ => False
  | n + 1, y1, y2, y3, y4, y5, v_m => (((v_m.2.1 1 ((5 : Int32)).toNatClampNeg) ≤ y5 → PX9_ask_b243 post y1 y3 y4 v_m) ∧ (¬ (v_m.2.1 1 ((5 : Int32)).toNatClampNeg) ≤ y5 → ((y2 ≤ ((0 : Int32)) → PX9_ask_b243 post y1 y3 y4 v_m) ∧ (¬ y2 ≤ ((0 : Int32)) → (∀ x3 : Int32, x3 = (((62 : Int32)) * y5) → (∃ n4 : Nat, PX9_ask_L173 (PX9_ask_L148 post n) post n4 y1 y2 y3 y4 y5 ((0 : Int32)) x3 v_m))))))
set_option maxRecDepth 100000 in
set_option maxHeartbeats 1000000 in
theorem wX9_ask_L148   {post : Int32 → OV → Prop} {ad_m : Nat → Nat} (X : kn_X p s m args meth c cX9_ask 8 (some .int) RX9 kn_all D tc Z (kn_A w0 s.heap.size))    : ∀ n : Nat, ∀ (H : Heap) (locs : List Loc) (ls : Array Slot) (y1 : Int32) (y2 : Int32) (y3 : Int32) (y4 : Int32) (y5 : Int32) (v_m : OV), kn_I D tc (kn_A w0 s.heap.size) s.heap [(kModel, ad_m, v_m)] H locs → lv_has ls 8 [(0, .ref (ad_m 0)), (1, .int y1), (2, .int y2), (3, .int y3), (4, .int y4), (5, .int y5)] → PX9_ask_L148 post n y1 y2 y3 y4 y5 v_m → W p l e rmX9_ask s m args below meth c H locs 0 0 (kn_Qi D tc w0 (fun (u : OV) => [(kModel, ad_m, u)]) (fun (r : Int32) (u : OV) => post r u) below args s 0 0) (F0 m 148 ls []) := by
  obtain ⟨S0, hr, hlocks, hK, hZ, hA⟩ := id X
  obtain ⟨hx, hb, hml, hown, hts⟩ := id S0
  intro n
  induction n with
  | zero =>
    intro H locs ls y1 y2 y3 y4 y5 v_m I hl h
    unfold PX9_ask_L148 at h
    exact h.elim
  | succ n ih =>
    intro H locs ls y1 y2 y3 y4 y5 v_m I hl h
    unfold PX9_ask_L148 at h
    refine lv_iload hx hb (kn_dec tX9_ask_t1 26 rfl) (lv_at hl 5 rfl) ?_
    refine lv_aload_n hx hb (kn_dec tX9_ask_t1 27 rfl) rfl (lv_at hl 0 rfl) ?_
    refine kw_getl hx hb hts inX9 hown hK I 0 rfl rfl 1 (by decide) rfl (hts _ q4_201) (kn_dec tX9_ask_t1 28 rfl) rfl ?_
    refine lv_iconst (v := (5)) hx hb (kn_dec tX9_ask_t1 29 rfl) (by decide) ?_
    refine kw_iald hx hb hK I 0 rfl 1 12 (List.mem_of_getElem? (i := 0) rfl) (by unfold vp_in; decide) (kn_dec tX9_ask_t1 30 rfl) ?_
    refine lv_icmp_ge (tgt := 243) hx hb (kn_dec tX9_ask_t1 31 rfl) (by decide) (fun c1 => ?_) (fun c1 => ?_)
    · have h := h.1 c1
      exact wX9_ask_b243 X _ _ _ _ _ _ _  I (lv_sub hl [1, 3, 4] rfl) h
    · have h := h.2 c1
      refine lv_iload_n hx hb (kn_dec tX9_ask_t1 32 rfl) rfl (lv_at hl 2 rfl) ?_
      refine lv_if_le (tgt := 243) hx hb (kn_dec tX9_ask_t1 33 rfl) (by decide) (fun c2 => ?_) (fun c2 => ?_)
      · have h := h.1 c2
        exact wX9_ask_b243 X _ _ _ _ _ _ _  I (lv_sub hl [1, 3, 4] rfl) h
      · have h := h.2 c2
        refine lv_iconst (v := (0)) hx hb (kn_dec tX9_ask_t1 34 rfl) (by decide) ?_
        refine lv_istore (lv' := [(6, .int _), (0, .ref (ad_m 0)), (1, .int _), (2, .int _), (3, .int _), (4, .int _), (5, .int _)]) hx hb (kn_dec tX9_ask_t1 35 rfl) hl (by decide) rfl (fun ls hl => ?_)
        refine lv_bipush (v := (62)) hx hb (kn_dec tX9_ask_t1 36 rfl) (by decide) ?_
        refine lv_iload hx hb (kn_dec tX9_ask_t1 37 rfl) (lv_at hl 6 rfl) ?_
        refine lv_imul hx hb (kn_dec tX9_ask_t1 38 rfl) ?_
        refine lv_topi (fun x3 ex3 => ?_)
        have h := h x3 ex3
        refine lv_istore (lv' := [(7, .int _), (6, .int _), (0, .ref (ad_m 0)), (1, .int _), (2, .int _), (3, .int _), (4, .int _), (5, .int _)]) hx hb (kn_dec tX9_ask_t1 39 rfl) hl (by decide) rfl (fun ls hl => ?_)
        obtain ⟨n4, h⟩ := h
        exact wX9_ask_L173 X ih n4 _ _ _ _ _ _ _ _ _ _ _  I (lv_sub hl [2, 3, 4, 5, 6, 7, 1, 0] rfl) h
def PX9_ask_L86  (K51 : Int32 → Int32 → Int32 → OV → Prop) (post : Int32 → OV → Prop) : Nat → Int32 → Int32 → Int32 → Int32 → Int32 → OV → Prop
  | 0, _, _, _, _, _, _ => False
  | n + 1, y1, y2, y3, y4, y5, v_m => (((v_m.2.1 1 ((5 : Int32)).toNatClampNeg) ≤ y5 → (∀ x2 : Int32, x2 = y3 + (1 : Int32) → K51 y1 y2 x2 v_m)) ∧ (¬ (v_m.2.1 1 ((5 : Int32)).toNatClampNeg) ≤ y5 → ((y4 = ((0 : Int32)) → (∀ x4 : Int32, x4 = y3 + (1 : Int32) → K51 y1 y2 x4 v_m)) ∧ (¬ y4 = ((0 : Int32)) → (vp_in y5 4 ∧ (vp_in (((((62 : Int32)) * y5) + (v_m.2.1 61 y5.toNatClampNeg)) + ((1 : Int32))) 248 ∧ (∀ x7 : Int32, x7 = ((v_m.2.1 62 (((((62 : Int32)) * y5) + (v_m.2.1 61 y5.toNatClampNeg)) + ((1 : Int32))).toNatClampNeg) + ((1 : Int32))) → (vp_in (((((62 : Int32)) * y5) + (v_m.2.1 61 y5.toNatClampNeg)) + ((1 : Int32))) 248 ∧ (∀ v_m9 : OV, v_m9 = sa v_m 62 (upd (v_m.2.1 62) (((((62 : Int32)) * y5) + (v_m.2.1 61 y5.toNatClampNeg)) + ((1 : Int32))).toNatClampNeg x7) → (∀ x10 : Int32, x10 = y5 + (1 : Int32) → PX9_ask_L86 K51 post n y1 y2 y3 y4 x10 v_m9))))))))))
set_option maxRecDepth 100000 in
set_option maxHeartbeats 1000000 in
theorem wX9_ask_L86  {K51 : Int32 → Int32 → Int32 → OV → Prop} {post : Int32 → OV → Prop} {ad_m : Nat → Nat} (X : kn_X p s m args meth c cX9_ask 8 (some .int) RX9 kn_all D tc Z (kn_A w0 s.heap.size))   (hK51 : ∀ (H : Heap) (locs : List Loc) (ls : Array Slot) (y1 : Int32) (y2 : Int32) (y3 : Int32) (v_m : OV), kn_I D tc (kn_A w0 s.heap.size) s.heap [(kModel, ad_m, v_m)] H locs → lv_has ls 8 [(0, .ref (ad_m 0)), (1, .int y1), (2, .int y2), (3, .int y3)] → K51 y1 y2 y3 v_m → W p l e rmX9_ask s m args below meth c H locs 0 0 (kn_Qi D tc w0 (fun (u : OV) => [(kModel, ad_m, u)]) (fun (r : Int32) (u : OV) => post r u) below args s 0 0) (F0 m 51 ls [])) : ∀ n : Nat, ∀ (H : Heap) (locs : List Loc) (ls : Array Slot) (y1 : Int32) (y2 : Int32) (y3 : Int32) (y4 : Int32) (y5 : Int32) (v_m : OV), (hz_y4 : y4 = 0 ∨ y4 = 1) → kn_I D tc (kn_A w0 s.heap.size) s.heap [(kModel, ad_m, v_m)] H locs → lv_has ls 8 [(0, .ref (ad_m 0)), (1, .int y1), (2, .int y2), (3, .int y3), (4, .int y4), (5, .int y5)] → PX9_ask_L86 K51 post n y1 y2 y3 y4 y5 v_m → W p l e rmX9_ask s m args below meth c H locs 0 0 (kn_Qi D tc w0 (fun (u : OV) => [(kModel, ad_m, u)]) (fun (r : Int32) (u : OV) => post r u) below args s 0 0) (F0 m 86 ls []) := by
  obtain ⟨S0, hr, hlocks, hK, hZ, hA⟩ := id X
  obtain ⟨hx, hb, hml, hown, hts⟩ := id S0
  intro n
  induction n with
  | zero =>
    intro H locs ls y1 y2 y3 y4 y5 v_m hz_y4 I hl h
    unfold PX9_ask_L86 at h
    exact h.elim
  | succ n ih =>
    intro H locs ls y1 y2 y3 y4 y5 v_m hz_y4 I hl h
    unfold PX9_ask_L86 at h
    refine lv_iload hx hb (kn_dec tX9_ask_t0 51 rfl) (lv_at hl 5 rfl) ?_
    refine lv_aload_n hx hb (kn_dec tX9_ask_t0 52 rfl) rfl (lv_at hl 0 rfl) ?_
    refine kw_getl hx hb hts inX9 hown hK I 0 rfl rfl 1 (by decide) rfl (hts _ q4_201) (kn_dec tX9_ask_t0 53 rfl) rfl ?_
    refine lv_iconst (v := (5)) hx hb (kn_dec tX9_ask_t0 54 rfl) (by decide) ?_
    refine kw_iald hx hb hK I 0 rfl 1 12 (List.mem_of_getElem? (i := 0) rfl) (by unfold vp_in; decide) (kn_dec tX9_ask_t0 55 rfl) ?_
    refine lv_icmp_ge (tgt := 132) hx hb (kn_dec tX9_ask_t0 56 rfl) (by decide) (fun c1 => ?_) (fun c1 => ?_)
    · have h := h.1 c1
      refine kw_iinc (lvf := fun y => [(3, .int y), (0, .ref (ad_m 0)), (1, .int _), (2, .int _), (4, .int _), (5, .int _)]) (nv := (1)) hx hb (kn_dec tX9_ask_t1 18 rfl) hl (k := 3) rfl (by decide) (by decide) (fun _ => rfl) (fun x2 ex2 ls hl => ?_)
      have h := h x2 ex2
      refine lv_goto (tgt := 51) hx hb (kn_dec tX9_ask_t1 19 rfl) (by decide) ?_
      exact hK51 _ _ _ _ _ _ _  I (lv_sub hl [1, 2, 3, 0] rfl) h
    · have h := h.2 c1
      refine lv_iload hx hb (kn_dec tX9_ask_t0 57 rfl) (lv_at hl 4 rfl) ?_
      refine lv_if_eq (tgt := 132) hx hb (kn_dec tX9_ask_t0 58 rfl) (by decide) (fun c3 => ?_) (fun c3 => ?_)
      · have h := h.1 c3
        refine kw_iinc (lvf := fun y => [(3, .int y), (0, .ref (ad_m 0)), (1, .int _), (2, .int _), (4, .int _), (5, .int _)]) (nv := (1)) hx hb (kn_dec tX9_ask_t1 18 rfl) hl (k := 3) rfl (by decide) (by decide) (fun _ => rfl) (fun x4 ex4 ls hl => ?_)
        have h := h x4 ex4
        refine lv_goto (tgt := 51) hx hb (kn_dec tX9_ask_t1 19 rfl) (by decide) ?_
        exact hK51 _ _ _ _ _ _ _  I (lv_sub hl [1, 2, 3, 0] rfl) h
      · have h := h.2 c3
        refine lv_aload_n hx hb (kn_dec tX9_ask_t0 59 rfl) rfl (lv_at hl 0 rfl) ?_
        refine kw_getl hx hb hts inX9 hown hK I 0 rfl rfl 62 (by decide) rfl (hts _ q5_22) (kn_dec tX9_ask_t1 0 rfl) rfl ?_
        refine lv_bipush (v := (62)) hx hb (kn_dec tX9_ask_t1 1 rfl) (by decide) ?_
        refine lv_iload hx hb (kn_dec tX9_ask_t1 2 rfl) (lv_at hl 5 rfl) ?_
        refine lv_imul hx hb (kn_dec tX9_ask_t1 3 rfl) ?_
        refine lv_aload_n hx hb (kn_dec tX9_ask_t1 4 rfl) rfl (lv_at hl 0 rfl) ?_
        refine kw_getl hx hb hts inX9 hown hK I 0 rfl rfl 61 (by decide) rfl (hts _ q5_21) (kn_dec tX9_ask_t1 5 rfl) rfl ?_
        refine lv_iload hx hb (kn_dec tX9_ask_t1 6 rfl) (lv_at hl 5 rfl) ?_
        obtain ⟨hs5, h⟩ := h
        refine kw_iald hx hb hK I 0 rfl 61 4 (List.mem_of_getElem? (i := 44) rfl) hs5 (kn_dec tX9_ask_t1 7 rfl) ?_
        refine lv_iadd hx hb (kn_dec tX9_ask_t1 8 rfl) ?_
        refine lv_iconst (v := (1)) hx hb (kn_dec tX9_ask_t1 9 rfl) (by decide) ?_
        refine lv_iadd hx hb (kn_dec tX9_ask_t1 10 rfl) ?_
        refine lv_dup2_11 hx hb (kn_dec tX9_ask_t1 11 rfl) rfl rfl ?_
        obtain ⟨hs6, h⟩ := h
        refine kw_iald hx hb hK I 0 rfl 62 248 (List.mem_of_getElem? (i := 45) rfl) hs6 (kn_dec tX9_ask_t1 12 rfl) ?_
        refine lv_iconst (v := (1)) hx hb (kn_dec tX9_ask_t1 13 rfl) (by decide) ?_
        refine lv_iadd hx hb (kn_dec tX9_ask_t1 14 rfl) ?_
        refine lv_topi (fun x7 ex7 => ?_)
        have h := h x7 ex7
        obtain ⟨hs8, h⟩ := h
        refine kw_iast hx hb hK I 0 rfl 62 248 (List.mem_of_getElem? (i := 45) rfl) ukModel_62 hs8 (kn_dec tX9_ask_t1 15 rfl) (fun v_m9 ev_m9 H locs I => ?_)
        have h := h v_m9 ev_m9
        have I : kn_I D tc (kn_A w0 s.heap.size) s.heap [(kModel, ad_m, _)] _ _ := I
        refine kw_iinc (lvf := fun y => [(5, .int y), (0, .ref (ad_m 0)), (1, .int _), (2, .int _), (3, .int _), (4, .int _)]) (nv := (1)) hx hb (kn_dec tX9_ask_t1 16 rfl) hl (k := 5) rfl (by decide) (by decide) (fun _ => rfl) (fun x10 ex10 ls hl => ?_)
        have h := h x10 ex10
        refine lv_goto (tgt := 86) hx hb (kn_dec tX9_ask_t1 17 rfl) (by decide) ?_
        exact ih _ _ _ _ _ _ _ _ _ hz_y4 I (lv_sub hl [1, 2, 3, 4, 5, 0] rfl) h
def PX9_ask_b81  (K51 : Int32 → Int32 → Int32 → OV → Prop) (post : Int32 → OV → Prop) (t0 : Int32) (t1 : Int32) (y1 : Int32) (y3 : Int32) (y4 : Int32) (v_m : OV) : Prop := (∀ x1 : Int32, x1 = (t0 + t1) → (∃ n2 : Nat, PX9_ask_L86 K51 post n2 y1 x1 y3 y4 ((0 : Int32)) v_m))
set_option maxRecDepth 100000 in
set_option maxHeartbeats 1000000 in
theorem wX9_ask_b81  {K51 : Int32 → Int32 → Int32 → OV → Prop} {post : Int32 → OV → Prop} {ad_m : Nat → Nat} (X : kn_X p s m args meth c cX9_ask 8 (some .int) RX9 kn_all D tc Z (kn_A w0 s.heap.size))   (hK51 : ∀ (H : Heap) (locs : List Loc) (ls : Array Slot) (y1 : Int32) (y2 : Int32) (y3 : Int32) (v_m : OV), kn_I D tc (kn_A w0 s.heap.size) s.heap [(kModel, ad_m, v_m)] H locs → lv_has ls 8 [(0, .ref (ad_m 0)), (1, .int y1), (2, .int y2), (3, .int y3)] → K51 y1 y2 y3 v_m → W p l e rmX9_ask s m args below meth c H locs 0 0 (kn_Qi D tc w0 (fun (u : OV) => [(kModel, ad_m, u)]) (fun (r : Int32) (u : OV) => post r u) below args s 0 0) (F0 m 51 ls [])) : ∀ (H : Heap) (locs : List Loc) (ls : Array Slot) (t0 : Int32) (t1 : Int32) (y1 : Int32) (y3 : Int32) (y4 : Int32) (v_m : OV), (hz_t1 : t1 = 0 ∨ t1 = 1) → (hz_y4 : y4 = 0 ∨ y4 = 1) → kn_I D tc (kn_A w0 s.heap.size) s.heap [(kModel, ad_m, v_m)] H locs → lv_has ls 8 [(0, .ref (ad_m 0)), (1, .int y1), (3, .int y3), (4, .int y4)] → PX9_ask_b81 K51 post t0 t1 y1 y3 y4 v_m → W p l e rmX9_ask s m args below meth c H locs 0 0 (kn_Qi D tc w0 (fun (u : OV) => [(kModel, ad_m, u)]) (fun (r : Int32) (u : OV) => post r u) below args s 0 0) (F0 m 81 ls [.int t1, .int t0]) := by
  obtain ⟨S0, hr, hlocks, hK, hZ, hA⟩ := id X
  obtain ⟨hx, hb, hml, hown, hts⟩ := id S0
  intro H locs ls t0 t1 y1 y3 y4 v_m hz_t1 hz_y4 I hl h
  unfold PX9_ask_b81 at h
  refine lv_iadd hx hb (kn_dec tX9_ask_t0 47 rfl) ?_
  refine lv_topi (fun x1 ex1 => ?_)
  have h := h x1 ex1
  refine lv_istore_n (lv' := [(2, .int _), (0, .ref (ad_m 0)), (1, .int _), (3, .int _), (4, .int _)]) hx hb (kn_dec tX9_ask_t0 48 rfl) rfl hl (by decide) rfl (fun ls hl => ?_)
  refine lv_iconst (v := (0)) hx hb (kn_dec tX9_ask_t0 49 rfl) (by decide) ?_
  refine lv_istore (lv' := [(5, .int _), (2, .int _), (0, .ref (ad_m 0)), (1, .int _), (3, .int _), (4, .int _)]) hx hb (kn_dec tX9_ask_t0 50 rfl) hl (by decide) rfl (fun ls hl => ?_)
  obtain ⟨n2, h⟩ := h
  exact wX9_ask_L86 X hK51 n2 _ _ _ _ _ _ _ _ _ hz_y4 I (lv_sub hl [2, 3, 1, 4, 5, 0] rfl) h
def PX9_ask_L51   (post : Int32 → OV → Prop) : Nat → Int32 → Int32 → Int32 → OV → Prop
  | 0, _, _, _, _ => False
  | n + 1, y1, y2, y3, v_m => (((v_m.1 34) ≤ y3 → (∃ n2 : Nat, PX9_ask_L148 post n2 y1 y2 ((-2 : Int32)) ((-2 : Int32)) ((0 : Int32)) v_m)) ∧ (¬ (v_m.1 34) ≤ y3 → (PX9_laysWriting v_m y3 (fun v_m3 => (PX9_areNamesSo v_m3 (fun r5 => ((r5 = ((0 : Int32)) → PX9_ask_b81 (PX9_ask_L51 post n) post y2 ((0 : Int32)) y1 y3 r5 v_m3) ∧ (¬ r5 = ((0 : Int32)) → PX9_ask_b81 (PX9_ask_L51 post n) post y2 ((1 : Int32)) y1 y3 r5 v_m3))))))))
set_option maxRecDepth 100000 in
set_option maxHeartbeats 1000000 in
theorem wX9_ask_L51   {post : Int32 → OV → Prop} {ad_m : Nat → Nat} (X : kn_X p s m args meth c cX9_ask 8 (some .int) RX9 kn_all D tc Z (kn_A w0 s.heap.size))    : ∀ n : Nat, ∀ (H : Heap) (locs : List Loc) (ls : Array Slot) (y1 : Int32) (y2 : Int32) (y3 : Int32) (v_m : OV), kn_I D tc (kn_A w0 s.heap.size) s.heap [(kModel, ad_m, v_m)] H locs → lv_has ls 8 [(0, .ref (ad_m 0)), (1, .int y1), (2, .int y2), (3, .int y3)] → PX9_ask_L51 post n y1 y2 y3 v_m → W p l e rmX9_ask s m args below meth c H locs 0 0 (kn_Qi D tc w0 (fun (u : OV) => [(kModel, ad_m, u)]) (fun (r : Int32) (u : OV) => post r u) below args s 0 0) (F0 m 51 ls []) := by
  obtain ⟨S0, hr, hlocks, hK, hZ, hA⟩ := id X
  obtain ⟨hx, hb, hml, hown, hts⟩ := id S0
  intro n
  induction n with
  | zero =>
    intro H locs ls y1 y2 y3 v_m I hl h
    unfold PX9_ask_L51 at h
    exact h.elim
  | succ n ih =>
    intro H locs ls y1 y2 y3 v_m I hl h
    unfold PX9_ask_L51 at h
    refine lv_iload_n hx hb (kn_dec tX9_ask_t0 31 rfl) rfl (lv_at hl 3 rfl) ?_
    refine lv_aload_n hx hb (kn_dec tX9_ask_t0 32 rfl) rfl (lv_at hl 0 rfl) ?_
    refine kw_geti hx hb hts inX9 hown hK I 0 rfl rfl 34 (by decide) rfl (hts _ q4_234) (kn_dec tX9_ask_t0 33 rfl) ?_
    refine lv_icmp_ge (tgt := 138) hx hb (kn_dec tX9_ask_t0 34 rfl) (by decide) (fun c1 => ?_) (fun c1 => ?_)
    · have h := h.1 c1
      refine lv_bipush (v := (-2)) hx hb (kn_dec tX9_ask_t1 20 rfl) (by decide) ?_
      refine lv_istore_n (lv' := [(3, .int _), (0, .ref (ad_m 0)), (1, .int _), (2, .int _)]) hx hb (kn_dec tX9_ask_t1 21 rfl) rfl hl (by decide) rfl (fun ls hl => ?_)
      refine lv_bipush (v := (-2)) hx hb (kn_dec tX9_ask_t1 22 rfl) (by decide) ?_
      refine lv_istore (lv' := [(4, .int _), (3, .int _), (0, .ref (ad_m 0)), (1, .int _), (2, .int _)]) hx hb (kn_dec tX9_ask_t1 23 rfl) hl (by decide) rfl (fun ls hl => ?_)
      refine lv_iconst (v := (0)) hx hb (kn_dec tX9_ask_t1 24 rfl) (by decide) ?_
      refine lv_istore (lv' := [(5, .int _), (4, .int _), (3, .int _), (0, .ref (ad_m 0)), (1, .int _), (2, .int _)]) hx hb (kn_dec tX9_ask_t1 25 rfl) hl (by decide) rfl (fun ls hl => ?_)
      obtain ⟨n2, h⟩ := h
      exact wX9_ask_L148 X n2 _ _ _ _ _ _ _ _ _  I (lv_sub hl [3, 4, 5, 2, 1, 0] rfl) h
    · have h := h.2 c1
      refine lv_aload_n hx hb (kn_dec tX9_ask_t0 35 rfl) rfl (lv_at hl 0 rfl) ?_
      refine lv_iload_n hx hb (kn_dec tX9_ask_t0 36 rfl) rfl (lv_at hl 3 rfl) ?_
      refine kw_callv (wc := [(kModel, ad_m, _)]) (wr := []) I hA [0] [] rfl rfl (by decide) (by decide) (kn_runV (As := [.int _]) S0 hK hZ hA I ((ctX9_laysWriting h).met _) (kn_cwV 1 hts q7_77 q7_79 q0_85 q1_10 q7_80 rfl rfl (by decide +kernel) ⟨(Nat.le_of_ble_eq_true rfl), (Nat.le_of_ble_eq_true rfl)⟩) [0] rfl (by decide) 0 rfl rfl rfl rfl hl.1 rfl (Nat.le_of_ble_eq_true rfl) (kn_dec tX9_ask_t0 37 rfl) ⟨(Nat.le_of_ble_eq_true rfl), (Nat.le_of_ble_eq_true rfl)⟩) (fun u4 H locs h I => ?_)
      have I : kn_I D tc (kn_A w0 s.heap.size) s.heap [(kModel, ad_m, _)] _ _ := I
      refine lv_aload_n hx hb (kn_dec tX9_ask_t0 38 rfl) rfl (lv_at hl 0 rfl) ?_
      refine kw_calli (wc := [(kModel, ad_m, _)]) (wr := []) I hA [0] [] rfl rfl (by decide) (by decide) (kn_runV (As := []) S0 hK hZ hA I ((ctX9_areNamesSo h).met _) (kn_cwV 0 hts q7_81 q7_83 q0_86 q1_10 q7_84 rfl rfl (by decide +kernel) ⟨(Nat.le_of_ble_eq_true rfl), (Nat.le_of_ble_eq_true rfl)⟩) [0] rfl (by decide) 0 rfl rfl rfl rfl hl.1 rfl (Nat.le_of_ble_eq_true rfl) (kn_dec tX9_ask_t0 39 rfl) ⟨(Nat.le_of_ble_eq_true rfl), (Nat.le_of_ble_eq_true rfl)⟩) (fun r5 u6 H locs h I => ?_)
      obtain ⟨hz_r5, h⟩ := h
      have I : kn_I D tc (kn_A w0 s.heap.size) s.heap [(kModel, ad_m, _)] _ _ := I
      refine lv_istore (lv' := [(4, .int _), (0, .ref (ad_m 0)), (1, .int _), (2, .int _), (3, .int _)]) hx hb (kn_dec tX9_ask_t0 40 rfl) hl (by decide) rfl (fun ls hl => ?_)
      refine lv_iload_n hx hb (kn_dec tX9_ask_t0 41 rfl) rfl (lv_at hl 3 rfl) ?_
      refine lv_iload hx hb (kn_dec tX9_ask_t0 42 rfl) (lv_at hl 0 rfl) ?_
      refine lv_if_eq (tgt := 80) hx hb (kn_dec tX9_ask_t0 43 rfl) (by decide) (fun c7 => ?_) (fun c7 => ?_)
      · have h := h.1 c7
        refine lv_iconst (v := (0)) hx hb (kn_dec tX9_ask_t0 46 rfl) (by decide) ?_
        exact wX9_ask_b81 X ih _ _ _ _ _ _ _ _ _ (Or.inl rfl) hz_r5 I (lv_sub hl [1, 2, 4, 0] rfl) h
      · have h := h.2 c7
        refine lv_iconst (v := (1)) hx hb (kn_dec tX9_ask_t0 44 rfl) (by decide) ?_
        refine lv_goto (tgt := 81) hx hb (kn_dec tX9_ask_t0 45 rfl) (by decide) ?_
        exact wX9_ask_b81 X ih _ _ _ _ _ _ _ _ _ (Or.inr rfl) hz_r5 I (lv_sub hl [1, 2, 4, 0] rfl) h
def PX9_ask_L21   (post : Int32 → OV → Prop) : Nat → Int32 → Int32 → OV → Prop
  | 0, _, _, _ => False
  | n + 1, y1, y2, v_m => ((((248 : Int32)) ≤ y2 → (PX9_keepsAll v_m (fun v_m2 => (∃ n4 : Nat, PX9_ask_L51 post n4 y1 ((0 : Int32)) ((-1 : Int32)) v_m2)))) ∧ (¬ ((248 : Int32)) ≤ y2 → (vp_in y2 248 ∧ (∀ v_m6 : OV, v_m6 = sa v_m 62 (upd (v_m.2.1 62) y2.toNatClampNeg ((0 : Int32))) → (∀ x7 : Int32, x7 = y2 + (1 : Int32) → PX9_ask_L21 post n y1 x7 v_m6)))))
set_option maxRecDepth 100000 in
set_option maxHeartbeats 1000000 in
theorem wX9_ask_L21   {post : Int32 → OV → Prop} {ad_m : Nat → Nat} (X : kn_X p s m args meth c cX9_ask 8 (some .int) RX9 kn_all D tc Z (kn_A w0 s.heap.size))    : ∀ n : Nat, ∀ (H : Heap) (locs : List Loc) (ls : Array Slot) (y1 : Int32) (y2 : Int32) (v_m : OV), kn_I D tc (kn_A w0 s.heap.size) s.heap [(kModel, ad_m, v_m)] H locs → lv_has ls 8 [(0, .ref (ad_m 0)), (1, .int y1), (2, .int y2)] → PX9_ask_L21 post n y1 y2 v_m → W p l e rmX9_ask s m args below meth c H locs 0 0 (kn_Qi D tc w0 (fun (u : OV) => [(kModel, ad_m, u)]) (fun (r : Int32) (u : OV) => post r u) below args s 0 0) (F0 m 21 ls []) := by
  obtain ⟨S0, hr, hlocks, hK, hZ, hA⟩ := id X
  obtain ⟨hx, hb, hml, hown, hts⟩ := id S0
  intro n
  induction n with
  | zero =>
    intro H locs ls y1 y2 v_m I hl h
    unfold PX9_ask_L21 at h
    exact h.elim
  | succ n ih =>
    intro H locs ls y1 y2 v_m I hl h
    unfold PX9_ask_L21 at h
    refine lv_iload_n hx hb (kn_dec tX9_ask_t0 13 rfl) rfl (lv_at hl 2 rfl) ?_
    refine lv_aload_n hx hb (kn_dec tX9_ask_t0 14 rfl) rfl (lv_at hl 0 rfl) ?_
    refine kw_getl hx hb hts inX9 hown hK I 0 rfl rfl 62 (by decide) rfl (hts _ q5_22) (kn_dec tX9_ask_t0 15 rfl) rfl ?_
    refine kw_alen hx hb hK I 0 rfl 62 0 248 (List.mem_of_getElem? (i := 45) rfl) rfl (x := 248) (by decide) (kn_dec tX9_ask_t0 16 rfl) ?_
    refine lv_icmp_ge (tgt := 43) hx hb (kn_dec tX9_ask_t0 17 rfl) (by decide) (fun c1 => ?_) (fun c1 => ?_)
    · have h := h.1 c1
      refine lv_aload_n hx hb (kn_dec tX9_ask_t0 25 rfl) rfl (lv_at hl 0 rfl) ?_
      refine kw_callv (wc := [(kModel, ad_m, _)]) (wr := []) I hA [0] [] rfl rfl (by decide) (by decide) (kn_runV (As := []) S0 hK hZ hA I ((ctX9_keepsAll h).met _) (kn_cwV 0 hts q6_237 q6_239 q0_78 q1_10 q7_0 rfl rfl (by decide +kernel) ⟨(Nat.le_of_ble_eq_true rfl), (Nat.le_of_ble_eq_true rfl)⟩) [0] rfl (by decide) 0 rfl rfl rfl rfl hl.1 rfl (Nat.le_of_ble_eq_true rfl) (kn_dec tX9_ask_t0 26 rfl) ⟨(Nat.le_of_ble_eq_true rfl), (Nat.le_of_ble_eq_true rfl)⟩) (fun u3 H locs h I => ?_)
      have I : kn_I D tc (kn_A w0 s.heap.size) s.heap [(kModel, ad_m, _)] _ _ := I
      refine lv_iconst (v := (0)) hx hb (kn_dec tX9_ask_t0 27 rfl) (by decide) ?_
      refine lv_istore_n (lv' := [(2, .int _), (0, .ref (ad_m 0)), (1, .int _)]) hx hb (kn_dec tX9_ask_t0 28 rfl) rfl hl (by decide) rfl (fun ls hl => ?_)
      refine lv_iconst (v := (-1)) hx hb (kn_dec tX9_ask_t0 29 rfl) (by decide) ?_
      refine lv_istore_n (lv' := [(3, .int _), (2, .int _), (0, .ref (ad_m 0)), (1, .int _)]) hx hb (kn_dec tX9_ask_t0 30 rfl) rfl hl (by decide) rfl (fun ls hl => ?_)
      obtain ⟨n4, h⟩ := h
      exact wX9_ask_L51 X n4 _ _ _ _ _ _ _  I (lv_sub hl [2, 3, 1, 0] rfl) h
    · have h := h.2 c1
      refine lv_aload_n hx hb (kn_dec tX9_ask_t0 18 rfl) rfl (lv_at hl 0 rfl) ?_
      refine kw_getl hx hb hts inX9 hown hK I 0 rfl rfl 62 (by decide) rfl (hts _ q5_22) (kn_dec tX9_ask_t0 19 rfl) rfl ?_
      refine lv_iload_n hx hb (kn_dec tX9_ask_t0 20 rfl) rfl (lv_at hl 2 rfl) ?_
      refine lv_iconst (v := (0)) hx hb (kn_dec tX9_ask_t0 21 rfl) (by decide) ?_
      obtain ⟨hs5, h⟩ := h
      refine kw_iast hx hb hK I 0 rfl 62 248 (List.mem_of_getElem? (i := 45) rfl) ukModel_62 hs5 (kn_dec tX9_ask_t0 22 rfl) (fun v_m6 ev_m6 H locs I => ?_)
      have h := h v_m6 ev_m6
      have I : kn_I D tc (kn_A w0 s.heap.size) s.heap [(kModel, ad_m, _)] _ _ := I
      refine kw_iinc (lvf := fun y => [(2, .int y), (0, .ref (ad_m 0)), (1, .int _)]) (nv := (1)) hx hb (kn_dec tX9_ask_t0 23 rfl) hl (k := 2) rfl (by decide) (by decide) (fun _ => rfl) (fun x7 ex7 ls hl => ?_)
      have h := h x7 ex7
      refine lv_goto (tgt := 21) hx hb (kn_dec tX9_ask_t0 24 rfl) (by decide) ?_
      exact ih _ _ _ _ _ _  I (lv_sub hl [1, 2, 0] rfl) h
def PX9_ask  (v_m : OV) (a1 : Int32) (post : Int32 → OV → Prop) : Prop := (PX9_isHill v_m (fun r1 => ((r1 = ((0 : Int32)) → post ((-1 : Int32)) v_m) ∧ (¬ r1 = ((0 : Int32)) → (PX9_in a1.toInt64 ((0 : Int64)) ((1 : Int64)) (fun r4 => ((¬ r4 = ((0 : Int32)) → (∃ n7 : Nat, PX9_ask_L21 post n7 a1 ((0 : Int32)) v_m)) ∧ (r4 = ((0 : Int32)) → post ((-1 : Int32)) v_m))))))))
set_option maxRecDepth 100000 in
set_option maxHeartbeats 1000000 in
theorem ctX9_ask {l : Launch} {D : va_G} {tc : Nat → ClassId} {Z : (Nat → Nat) × (Nat → Nat)}  {ad_m : Nat → Nat} {v_m : OV} {a1 : Int32}    {post : Int32 → OV → Prop} (h : PX9_ask  v_m a1 post) : CTi l D tc Z yX9_ask (Cond.code yX9_ask cX9_ask 8 (some .int) :: kn_all) rmX9_ask 0 0 [.ref (ad_m 0), .int a1] [(kModel, ad_m, v_m)] (fun (u : OV) => [(kModel, ad_m, u)]) (fun (r : Int32) (u : OV) => post r u) := by
  refine kn_ofi (cc := cX9_ask) (nL := 8) (ret := (some .int)) (lv := [(0, .ref (ad_m 0)), (1, .int a1)]) (by decide) (Nat.le_of_ble_eq_true rfl) rfl (fun p e s m below meth c ls X I hl _ => ?_)
  obtain ⟨S0, hr, hlocks, hK, hZ, hA⟩ := id X
  obtain ⟨hx, hb, hml, hown, hts⟩ := id S0
  unfold PX9_ask at h
  refine lv_aload_n hx hb (kn_dec tX9_ask_t0 0 rfl) rfl (lv_at hl 0 rfl) ?_
  refine kw_calli (wc := [(kModel, ad_m, _)]) (wr := []) I hA [0] [] rfl rfl (by decide) (by decide) (kn_runV (As := []) S0 hK hZ hA I ((ctX9_isHill h).met _) (kn_cwV 0 hts q6_147 q6_149 q0_64 q1_10 q6_150 rfl rfl (by decide +kernel) ⟨(Nat.le_of_ble_eq_true rfl), (Nat.le_of_ble_eq_true rfl)⟩) [0] rfl (by decide) 0 rfl rfl rfl rfl hl.1 rfl (Nat.le_of_ble_eq_true rfl) (kn_dec tX9_ask_t0 1 rfl) ⟨(Nat.le_of_ble_eq_true rfl), (Nat.le_of_ble_eq_true rfl)⟩) (fun r1 u2 H locs h I => ?_)
  obtain ⟨hz_r1, h⟩ := h
  have I : kn_I D tc (kn_A _ s.heap.size) s.heap [(kModel, ad_m, _)] _ _ := I
  refine lv_if_eq (tgt := 17) hx hb (kn_dec tX9_ask_t0 2 rfl) (by decide) (fun c3 => ?_) (fun c3 => ?_)
  · have h := h.1 c3
    refine lv_iconst (v := (-1)) hx hb (kn_dec tX9_ask_t0 9 rfl) (by decide) ?_
    exact kw_iret hx hb hr hlocks I _ rfl h (kn_dec tX9_ask_t0 10 rfl)
  · have h := h.2 c3
    refine lv_iload_n hx hb (kn_dec tX9_ask_t0 3 rfl) rfl (lv_at hl 1 rfl) ?_
    refine lv_i2l hx hb (kn_dec tX9_ask_t0 4 rfl) rfl ?_
    refine lv_lconst (v := 0) hx hb (kn_dec tX9_ask_t0 5 rfl) (by decide) ?_
    refine lv_lconst (v := 1) hx hb (kn_dec tX9_ask_t0 6 rfl) (by decide) ?_
    refine kw_calli (wc := []) (wr := [(kModel, ad_m, _)]) I hA [] [0] rfl rfl (by decide) (by decide) (kn_runS (As := [.long _, .long _, .long _]) S0 hK hZ hA I ((ctX9_in h).met _) (kn_cwS 3 hts q6_1 q6_2 q1_10 q6_3 rfl rfl (by decide +kernel) ⟨(Nat.le_of_ble_eq_true rfl), (Nat.le_of_ble_eq_true rfl)⟩) [] rfl (by decide) rfl hl.1 rfl (Nat.le_of_ble_eq_true rfl) (kn_dec tX9_ask_t0 7 rfl) ⟨(Nat.le_of_ble_eq_true rfl), (Nat.le_of_ble_eq_true rfl)⟩) (fun r4 u5 H locs h I => ?_)
    obtain ⟨hz_r4, h⟩ := h
    have I : kn_I D tc (kn_A _ s.heap.size) s.heap [(kModel, ad_m, _)] _ _ := I
    refine lv_if_ne (tgt := 19) hx hb (kn_dec tX9_ask_t0 8 rfl) (by decide) (fun c6 => ?_) (fun c6 => ?_)
    · have h := h.1 c6
      refine lv_iconst (v := (0)) hx hb (kn_dec tX9_ask_t0 11 rfl) (by decide) ?_
      refine lv_istore_n (lv' := [(2, .int _), (0, .ref (ad_m 0)), (1, .int _)]) hx hb (kn_dec tX9_ask_t0 12 rfl) rfl hl (by decide) rfl (fun ls hl => ?_)
      obtain ⟨n7, h⟩ := h
      exact wX9_ask_L21 X n7 _ _ _ _ _ _  I (lv_sub hl [1, 2, 0] rfl) h
    · have h := h.2 c6
      refine lv_iconst (v := (-1)) hx hb (kn_dec tX9_ask_t0 9 rfl) (by decide) ?_
      exact kw_iret hx hb hr hlocks I _ rfl h (kn_dec tX9_ask_t0 10 rfl)

/-! X9_forged -/
abbrev rmX9_forged : Room := { frames := 10, cells := 0, slots := 0, locals := 228 }
def PX9_forged_b83  (K27 : Int32 → Int32 → OV → Prop) (K42 : Int32 → Int32 → Int32 → OV → Prop) (post : Int32 → OV → Prop) (t0 : Int32) (t1 : Int32) (y2 : Int32) (y3 : Int32) (v_m : OV) : Prop := (∀ x1 : Int32, x1 = (t0 &&& t1) → (∀ x2 : Int32, x2 = y3 + (1 : Int32) → K42 x1 y2 x2 v_m))
set_option maxRecDepth 100000 in
set_option maxHeartbeats 1000000 in
theorem wX9_forged_b83  {K27 : Int32 → Int32 → OV → Prop} {K42 : Int32 → Int32 → Int32 → OV → Prop} {post : Int32 → OV → Prop} {ad_m : Nat → Nat} (X : kn_X p s m args meth c cX9_forged 4 (some .int) RX9 kn_all D tc Z (kn_A w0 s.heap.size))   (hK27 : ∀ (H : Heap) (locs : List Loc) (ls : Array Slot) (y1 : Int32) (y2 : Int32) (v_m : OV), kn_I D tc (kn_A w0 s.heap.size) s.heap [(kModel, ad_m, v_m)] H locs → lv_has ls 4 [(0, .ref (ad_m 0)), (1, .int y1), (2, .int y2)] → K27 y1 y2 v_m → W p l e rmX9_forged s m args below meth c H locs 0 0 (kn_Qi D tc w0 (fun (u : OV) => [(kModel, ad_m, u)]) (fun (r : Int32) (u : OV) => post r u) below args s 0 0) (F0 m 27 ls [])) (hK42 : ∀ (H : Heap) (locs : List Loc) (ls : Array Slot) (y1 : Int32) (y2 : Int32) (y3 : Int32) (v_m : OV), kn_I D tc (kn_A w0 s.heap.size) s.heap [(kModel, ad_m, v_m)] H locs → lv_has ls 4 [(0, .ref (ad_m 0)), (1, .int y1), (2, .int y2), (3, .int y3)] → K42 y1 y2 y3 v_m → W p l e rmX9_forged s m args below meth c H locs 0 0 (kn_Qi D tc w0 (fun (u : OV) => [(kModel, ad_m, u)]) (fun (r : Int32) (u : OV) => post r u) below args s 0 0) (F0 m 42 ls [])) : ∀ (H : Heap) (locs : List Loc) (ls : Array Slot) (t0 : Int32) (t1 : Int32) (y2 : Int32) (y3 : Int32) (v_m : OV), kn_I D tc (kn_A w0 s.heap.size) s.heap [(kModel, ad_m, v_m)] H locs → lv_has ls 4 [(0, .ref (ad_m 0)), (2, .int y2), (3, .int y3)] → PX9_forged_b83 K27 K42 post t0 t1 y2 y3 v_m → W p l e rmX9_forged s m args below meth c H locs 0 0 (kn_Qi D tc w0 (fun (u : OV) => [(kModel, ad_m, u)]) (fun (r : Int32) (u : OV) => post r u) below args s 0 0) (F0 m 83 ls [.int t1, .int t0]) := by
  obtain ⟨S0, hr, hlocks, hK, hZ, hA⟩ := id X
  obtain ⟨hx, hb, hml, hown, hts⟩ := id S0
  intro H locs ls t0 t1 y2 y3 v_m I hl h
  unfold PX9_forged_b83 at h
  refine lv_iand hx hb (kn_dec tX9_forged 53 rfl) ?_
  refine lv_topi (fun x1 ex1 => ?_)
  have h := h x1 ex1
  refine lv_istore_n (lv' := [(1, .int _), (0, .ref (ad_m 0)), (2, .int _), (3, .int _)]) hx hb (kn_dec tX9_forged 54 rfl) rfl hl (by decide) rfl (fun ls hl => ?_)
  refine kw_iinc (lvf := fun y => [(3, .int y), (1, .int _), (0, .ref (ad_m 0)), (2, .int _)]) (nv := (1)) hx hb (kn_dec tX9_forged 55 rfl) hl (k := 3) rfl (by decide) (by decide) (fun _ => rfl) (fun x2 ex2 ls hl => ?_)
  have h := h x2 ex2
  refine lv_goto (tgt := 42) hx hb (kn_dec tX9_forged 56 rfl) (by decide) ?_
  exact hK42 _ _ _ _ _ _ _  I (lv_sub hl [2, 1, 3, 0] rfl) h
def PX9_forged_L42  (K27 : Int32 → Int32 → OV → Prop) (post : Int32 → OV → Prop) : Nat → Int32 → Int32 → Int32 → OV → Prop
  | 0, _, _, _, _ => False
  | n + 1, y1, y2, y3, v_m => (((v_m.2.1 1 ((9 : Int32)).toNatClampNeg) ≤ y3 → (∀ x2 : Int32, x2 = y2 + (1 : Int32) → K27 y1 x2 v_m)) ∧ (¬ (v_m.2.1 1 ((9 : Int32)).toNatClampNeg) ≤ y3 → (vp_in y3 10 ∧ (vp_in (v_m.2.1 16 y3.toNatClampNeg) 4 ∧ (vp_in y3 10 ∧ ((¬ (v_m.2.1 61 (v_m.2.1 16 y3.toNatClampNeg).toNatClampNeg) = (v_m.2.1 15 y3.toNatClampNeg) → PX9_forged_b83 K27 (PX9_forged_L42 K27 post n) post y1 ((-1 : Int32)) y2 y3 v_m) ∧ ((v_m.2.1 61 (v_m.2.1 16 y3.toNatClampNeg).toNatClampNeg) = (v_m.2.1 15 y3.toNatClampNeg) → PX9_forged_b83 K27 (PX9_forged_L42 K27 post n) post y1 ((((1 : Int32)) <<< (y3 &&& 31)) ^^^ ((-1 : Int32))) y2 y3 v_m)))))))
set_option maxRecDepth 100000 in
set_option maxHeartbeats 1000000 in
theorem wX9_forged_L42  {K27 : Int32 → Int32 → OV → Prop} {post : Int32 → OV → Prop} {ad_m : Nat → Nat} (X : kn_X p s m args meth c cX9_forged 4 (some .int) RX9 kn_all D tc Z (kn_A w0 s.heap.size))   (hK27 : ∀ (H : Heap) (locs : List Loc) (ls : Array Slot) (y1 : Int32) (y2 : Int32) (v_m : OV), kn_I D tc (kn_A w0 s.heap.size) s.heap [(kModel, ad_m, v_m)] H locs → lv_has ls 4 [(0, .ref (ad_m 0)), (1, .int y1), (2, .int y2)] → K27 y1 y2 v_m → W p l e rmX9_forged s m args below meth c H locs 0 0 (kn_Qi D tc w0 (fun (u : OV) => [(kModel, ad_m, u)]) (fun (r : Int32) (u : OV) => post r u) below args s 0 0) (F0 m 27 ls [])) : ∀ n : Nat, ∀ (H : Heap) (locs : List Loc) (ls : Array Slot) (y1 : Int32) (y2 : Int32) (y3 : Int32) (v_m : OV), kn_I D tc (kn_A w0 s.heap.size) s.heap [(kModel, ad_m, v_m)] H locs → lv_has ls 4 [(0, .ref (ad_m 0)), (1, .int y1), (2, .int y2), (3, .int y3)] → PX9_forged_L42 K27 post n y1 y2 y3 v_m → W p l e rmX9_forged s m args below meth c H locs 0 0 (kn_Qi D tc w0 (fun (u : OV) => [(kModel, ad_m, u)]) (fun (r : Int32) (u : OV) => post r u) below args s 0 0) (F0 m 42 ls []) := by
  obtain ⟨S0, hr, hlocks, hK, hZ, hA⟩ := id X
  obtain ⟨hx, hb, hml, hown, hts⟩ := id S0
  intro n
  induction n with
  | zero =>
    intro H locs ls y1 y2 y3 v_m I hl h
    unfold PX9_forged_L42 at h
    exact h.elim
  | succ n ih =>
    intro H locs ls y1 y2 y3 v_m I hl h
    unfold PX9_forged_L42 at h
    refine lv_iload_n hx hb (kn_dec tX9_forged 27 rfl) rfl (lv_at hl 3 rfl) ?_
    refine lv_aload_n hx hb (kn_dec tX9_forged 28 rfl) rfl (lv_at hl 0 rfl) ?_
    refine kw_getl hx hb hts inX9 hown hK I 0 rfl rfl 1 (by decide) rfl (hts _ q4_201) (kn_dec tX9_forged 29 rfl) rfl ?_
    refine lv_bipush (v := (9)) hx hb (kn_dec tX9_forged 30 rfl) (by decide) ?_
    refine kw_iald hx hb hK I 0 rfl 1 12 (List.mem_of_getElem? (i := 0) rfl) (by unfold vp_in; decide) (kn_dec tX9_forged 31 rfl) ?_
    refine lv_icmp_ge (tgt := 91) hx hb (kn_dec tX9_forged 32 rfl) (by decide) (fun c1 => ?_) (fun c1 => ?_)
    · have h := h.1 c1
      refine kw_iinc (lvf := fun y => [(2, .int y), (0, .ref (ad_m 0)), (1, .int _), (3, .int _)]) (nv := (1)) hx hb (kn_dec tX9_forged 57 rfl) hl (k := 2) rfl (by decide) (by decide) (fun _ => rfl) (fun x2 ex2 ls hl => ?_)
      have h := h x2 ex2
      refine lv_goto (tgt := 27) hx hb (kn_dec tX9_forged 58 rfl) (by decide) ?_
      exact hK27 _ _ _ _ _ _  I (lv_sub hl [1, 2, 0] rfl) h
    · have h := h.2 c1
      refine lv_iload_n hx hb (kn_dec tX9_forged 33 rfl) rfl (lv_at hl 1 rfl) ?_
      refine lv_aload_n hx hb (kn_dec tX9_forged 34 rfl) rfl (lv_at hl 0 rfl) ?_
      refine kw_getl hx hb hts inX9 hown hK I 0 rfl rfl 61 (by decide) rfl (hts _ q5_21) (kn_dec tX9_forged 35 rfl) rfl ?_
      refine lv_aload_n hx hb (kn_dec tX9_forged 36 rfl) rfl (lv_at hl 0 rfl) ?_
      refine kw_getl hx hb hts inX9 hown hK I 0 rfl rfl 16 (by decide) rfl (hts _ q4_216) (kn_dec tX9_forged 37 rfl) rfl ?_
      refine lv_iload_n hx hb (kn_dec tX9_forged 38 rfl) rfl (lv_at hl 3 rfl) ?_
      obtain ⟨hs3, h⟩ := h
      refine kw_iald hx hb hK I 0 rfl 16 10 (List.mem_of_getElem? (i := 15) rfl) hs3 (kn_dec tX9_forged 39 rfl) ?_
      obtain ⟨hs4, h⟩ := h
      refine kw_iald hx hb hK I 0 rfl 61 4 (List.mem_of_getElem? (i := 44) rfl) hs4 (kn_dec tX9_forged 40 rfl) ?_
      refine lv_aload_n hx hb (kn_dec tX9_forged 41 rfl) rfl (lv_at hl 0 rfl) ?_
      refine kw_getl hx hb hts inX9 hown hK I 0 rfl rfl 15 (by decide) rfl (hts _ q4_215) (kn_dec tX9_forged 42 rfl) rfl ?_
      refine lv_iload_n hx hb (kn_dec tX9_forged 43 rfl) rfl (lv_at hl 3 rfl) ?_
      obtain ⟨hs5, h⟩ := h
      refine kw_iald hx hb hK I 0 rfl 15 10 (List.mem_of_getElem? (i := 14) rfl) hs5 (kn_dec tX9_forged 44 rfl) ?_
      refine lv_icmp_ne (tgt := 82) hx hb (kn_dec tX9_forged 45 rfl) (by decide) (fun c6 => ?_) (fun c6 => ?_)
      · have h := h.1 c6
        refine lv_iconst (v := (-1)) hx hb (kn_dec tX9_forged 52 rfl) (by decide) ?_
        exact wX9_forged_b83 X hK27 ih _ _ _ _ _ _ _ _  I (lv_sub hl [0, 2, 3] rfl) h
      · have h := h.2 c6
        refine lv_iconst (v := (1)) hx hb (kn_dec tX9_forged 46 rfl) (by decide) ?_
        refine lv_iload_n hx hb (kn_dec tX9_forged 47 rfl) rfl (lv_at hl 3 rfl) ?_
        refine lv_ishl hx hb (kn_dec tX9_forged 48 rfl) ?_
        refine lv_iconst (v := (-1)) hx hb (kn_dec tX9_forged 49 rfl) (by decide) ?_
        refine lv_ixor hx hb (kn_dec tX9_forged 50 rfl) ?_
        refine lv_goto (tgt := 83) hx hb (kn_dec tX9_forged 51 rfl) (by decide) ?_
        exact wX9_forged_b83 X hK27 ih _ _ _ _ _ _ _ _  I (lv_sub hl [0, 2, 3] rfl) h
def PX9_forged_L27   (post : Int32 → OV → Prop) : Nat → Int32 → Int32 → OV → Prop
  | 0, _, _, _ => False
  | n + 1, y1, y2, v_m => (((v_m.1 34) ≤ y2 → post y1 v_m) ∧ (¬ (v_m.1 34) ≤ y2 → (PX9_laysWriting v_m y2 (fun v_m2 => (∃ n4 : Nat, PX9_forged_L42 (PX9_forged_L27 post n) post n4 y1 y2 ((0 : Int32)) v_m2)))))
set_option maxRecDepth 100000 in
set_option maxHeartbeats 1000000 in
theorem wX9_forged_L27   {post : Int32 → OV → Prop} {ad_m : Nat → Nat} (X : kn_X p s m args meth c cX9_forged 4 (some .int) RX9 kn_all D tc Z (kn_A w0 s.heap.size))    : ∀ n : Nat, ∀ (H : Heap) (locs : List Loc) (ls : Array Slot) (y1 : Int32) (y2 : Int32) (v_m : OV), kn_I D tc (kn_A w0 s.heap.size) s.heap [(kModel, ad_m, v_m)] H locs → lv_has ls 4 [(0, .ref (ad_m 0)), (1, .int y1), (2, .int y2)] → PX9_forged_L27 post n y1 y2 v_m → W p l e rmX9_forged s m args below meth c H locs 0 0 (kn_Qi D tc w0 (fun (u : OV) => [(kModel, ad_m, u)]) (fun (r : Int32) (u : OV) => post r u) below args s 0 0) (F0 m 27 ls []) := by
  obtain ⟨S0, hr, hlocks, hK, hZ, hA⟩ := id X
  obtain ⟨hx, hb, hml, hown, hts⟩ := id S0
  intro n
  induction n with
  | zero =>
    intro H locs ls y1 y2 v_m I hl h
    unfold PX9_forged_L27 at h
    exact h.elim
  | succ n ih =>
    intro H locs ls y1 y2 v_m I hl h
    unfold PX9_forged_L27 at h
    refine lv_iload_n hx hb (kn_dec tX9_forged 18 rfl) rfl (lv_at hl 2 rfl) ?_
    refine lv_aload_n hx hb (kn_dec tX9_forged 19 rfl) rfl (lv_at hl 0 rfl) ?_
    refine kw_geti hx hb hts inX9 hown hK I 0 rfl rfl 34 (by decide) rfl (hts _ q4_234) (kn_dec tX9_forged 20 rfl) ?_
    refine lv_icmp_ge (tgt := 97) hx hb (kn_dec tX9_forged 21 rfl) (by decide) (fun c1 => ?_) (fun c1 => ?_)
    · have h := h.1 c1
      refine lv_iload_n hx hb (kn_dec tX9_forged 59 rfl) rfl (lv_at hl 1 rfl) ?_
      exact kw_iret hx hb hr hlocks I _ rfl h (kn_dec tX9_forged 60 rfl)
    · have h := h.2 c1
      refine lv_aload_n hx hb (kn_dec tX9_forged 22 rfl) rfl (lv_at hl 0 rfl) ?_
      refine lv_iload_n hx hb (kn_dec tX9_forged 23 rfl) rfl (lv_at hl 2 rfl) ?_
      refine kw_callv (wc := [(kModel, ad_m, _)]) (wr := []) I hA [0] [] rfl rfl (by decide) (by decide) (kn_runV (As := [.int _]) S0 hK hZ hA I ((ctX9_laysWriting h).met _) (kn_cwV 1 hts q7_77 q7_79 q0_85 q1_10 q7_80 rfl rfl (by decide +kernel) ⟨(Nat.le_of_ble_eq_true rfl), (Nat.le_of_ble_eq_true rfl)⟩) [0] rfl (by decide) 0 rfl rfl rfl rfl hl.1 rfl (Nat.le_of_ble_eq_true rfl) (kn_dec tX9_forged 24 rfl) ⟨(Nat.le_of_ble_eq_true rfl), (Nat.le_of_ble_eq_true rfl)⟩) (fun u3 H locs h I => ?_)
      have I : kn_I D tc (kn_A w0 s.heap.size) s.heap [(kModel, ad_m, _)] _ _ := I
      refine lv_iconst (v := (0)) hx hb (kn_dec tX9_forged 25 rfl) (by decide) ?_
      refine lv_istore_n (lv' := [(3, .int _), (0, .ref (ad_m 0)), (1, .int _), (2, .int _)]) hx hb (kn_dec tX9_forged 26 rfl) rfl hl (by decide) rfl (fun ls hl => ?_)
      obtain ⟨n4, h⟩ := h
      exact wX9_forged_L42 X ih n4 _ _ _ _ _ _ _  I (lv_sub hl [1, 2, 3, 0] rfl) h
def PX9_forged  (v_m : OV) (post : Int32 → OV → Prop) : Prop := (PX9_isHill v_m (fun r1 => ((¬ r1 = ((0 : Int32)) → (∀ x4 : Int32, x4 = ((((1 : Int32)) <<< ((v_m.2.1 1 ((9 : Int32)).toNatClampNeg) &&& 31)) - ((1 : Int32))) → (PX9_keepsAll v_m (fun v_m5 => (∃ n7 : Nat, PX9_forged_L27 post n7 x4 ((-1 : Int32)) v_m5))))) ∧ (r1 = ((0 : Int32)) → post ((-1 : Int32)) v_m))))
set_option maxRecDepth 100000 in
set_option maxHeartbeats 1000000 in
theorem ctX9_forged {l : Launch} {D : va_G} {tc : Nat → ClassId} {Z : (Nat → Nat) × (Nat → Nat)}  {ad_m : Nat → Nat} {v_m : OV}    {post : Int32 → OV → Prop} (h : PX9_forged  v_m post) : CTi l D tc Z yX9_forged (Cond.code yX9_forged cX9_forged 4 (some .int) :: kn_all) rmX9_forged 0 0 [.ref (ad_m 0)] [(kModel, ad_m, v_m)] (fun (u : OV) => [(kModel, ad_m, u)]) (fun (r : Int32) (u : OV) => post r u) := by
  refine kn_ofi (cc := cX9_forged) (nL := 4) (ret := (some .int)) (lv := [(0, .ref (ad_m 0))]) (by decide) (Nat.le_of_ble_eq_true rfl) rfl (fun p e s m below meth c ls X I hl _ => ?_)
  obtain ⟨S0, hr, hlocks, hK, hZ, hA⟩ := id X
  obtain ⟨hx, hb, hml, hown, hts⟩ := id S0
  unfold PX9_forged at h
  refine lv_aload_n hx hb (kn_dec tX9_forged 0 rfl) rfl (lv_at hl 0 rfl) ?_
  refine kw_calli (wc := [(kModel, ad_m, _)]) (wr := []) I hA [0] [] rfl rfl (by decide) (by decide) (kn_runV (As := []) S0 hK hZ hA I ((ctX9_isHill h).met _) (kn_cwV 0 hts q6_147 q6_149 q0_64 q1_10 q6_150 rfl rfl (by decide +kernel) ⟨(Nat.le_of_ble_eq_true rfl), (Nat.le_of_ble_eq_true rfl)⟩) [0] rfl (by decide) 0 rfl rfl rfl rfl hl.1 rfl (Nat.le_of_ble_eq_true rfl) (kn_dec tX9_forged 1 rfl) ⟨(Nat.le_of_ble_eq_true rfl), (Nat.le_of_ble_eq_true rfl)⟩) (fun r1 u2 H locs h I => ?_)
  obtain ⟨hz_r1, h⟩ := h
  have I : kn_I D tc (kn_A _ s.heap.size) s.heap [(kModel, ad_m, _)] _ _ := I
  refine lv_if_ne (tgt := 9) hx hb (kn_dec tX9_forged 2 rfl) (by decide) (fun c3 => ?_) (fun c3 => ?_)
  · have h := h.1 c3
    refine lv_iconst (v := (1)) hx hb (kn_dec tX9_forged 5 rfl) (by decide) ?_
    refine lv_aload_n hx hb (kn_dec tX9_forged 6 rfl) rfl (lv_at hl 0 rfl) ?_
    refine kw_getl hx hb hts inX9 hown hK I 0 rfl rfl 1 (by decide) rfl (hts _ q4_201) (kn_dec tX9_forged 7 rfl) rfl ?_
    refine lv_bipush (v := (9)) hx hb (kn_dec tX9_forged 8 rfl) (by decide) ?_
    refine kw_iald hx hb hK I 0 rfl 1 12 (List.mem_of_getElem? (i := 0) rfl) (by unfold vp_in; decide) (kn_dec tX9_forged 9 rfl) ?_
    refine lv_ishl hx hb (kn_dec tX9_forged 10 rfl) ?_
    refine lv_iconst (v := (1)) hx hb (kn_dec tX9_forged 11 rfl) (by decide) ?_
    refine lv_isub hx hb (kn_dec tX9_forged 12 rfl) ?_
    refine lv_topi (fun x4 ex4 => ?_)
    have h := h x4 ex4
    refine lv_istore_n (lv' := [(1, .int _), (0, .ref (ad_m 0))]) hx hb (kn_dec tX9_forged 13 rfl) rfl hl (by decide) rfl (fun ls hl => ?_)
    refine lv_aload_n hx hb (kn_dec tX9_forged 14 rfl) rfl (lv_at hl 1 rfl) ?_
    refine kw_callv (wc := [(kModel, ad_m, _)]) (wr := []) I hA [0] [] rfl rfl (by decide) (by decide) (kn_runV (As := []) S0 hK hZ hA I ((ctX9_keepsAll h).met _) (kn_cwV 0 hts q6_237 q6_239 q0_78 q1_10 q7_0 rfl rfl (by decide +kernel) ⟨(Nat.le_of_ble_eq_true rfl), (Nat.le_of_ble_eq_true rfl)⟩) [0] rfl (by decide) 0 rfl rfl rfl rfl hl.1 rfl (Nat.le_of_ble_eq_true rfl) (kn_dec tX9_forged 15 rfl) ⟨(Nat.le_of_ble_eq_true rfl), (Nat.le_of_ble_eq_true rfl)⟩) (fun u6 H locs h I => ?_)
    have I : kn_I D tc (kn_A _ s.heap.size) s.heap [(kModel, ad_m, _)] _ _ := I
    refine lv_iconst (v := (-1)) hx hb (kn_dec tX9_forged 16 rfl) (by decide) ?_
    refine lv_istore_n (lv' := [(2, .int _), (1, .int _), (0, .ref (ad_m 0))]) hx hb (kn_dec tX9_forged 17 rfl) rfl hl (by decide) rfl (fun ls hl => ?_)
    obtain ⟨n7, h⟩ := h
    exact wX9_forged_L27 X n7 _ _ _ _ _ _  I (lv_sub hl [2, 1, 0] rfl) h
  · have h := h.2 c3
    refine lv_iconst (v := (-1)) hx hb (kn_dec tX9_forged 3 rfl) (by decide) ?_
    exact kw_iret hx hb hr hlocks I _ rfl h (kn_dec tX9_forged 4 rfl)

/-! X9_seed -/
abbrev rmX9_seed : Room := { frames := 0, cells := 0, slots := 0, locals := 0 }
def PX9_seed  (v_m : OV) (a1 : Int32) (post : Int32 → OV → Prop) : Prop := ((((0 : Int32)) ≤ a1 → (∀ x2 : Int32, x2 = (v_m.2.1 1 ((10 : Int32)).toNatClampNeg) → (∀ v_m3 : OV, v_m3 = sa v_m 1 (upd (v_m.2.1 1) ((10 : Int32)).toNatClampNeg a1) → post x2 v_m3))) ∧ (¬ ((0 : Int32)) ≤ a1 → post ((-1 : Int32)) v_m))
set_option maxRecDepth 100000 in
set_option maxHeartbeats 1000000 in
theorem ctX9_seed {l : Launch} {D : va_G} {tc : Nat → ClassId} {Z : (Nat → Nat) × (Nat → Nat)}  {ad_m : Nat → Nat} {v_m : OV} {a1 : Int32}    {post : Int32 → OV → Prop} (h : PX9_seed  v_m a1 post) : CTi l D tc Z yX9_seed (Cond.code yX9_seed cX9_seed 3 (some .int) :: kn_all) rmX9_seed 0 0 [.ref (ad_m 0), .int a1] [(kModel, ad_m, v_m)] (fun (u : OV) => [(kModel, ad_m, u)]) (fun (r : Int32) (u : OV) => post r u) := by
  refine kn_ofi (cc := cX9_seed) (nL := 3) (ret := (some .int)) (lv := [(0, .ref (ad_m 0)), (1, .int a1)]) (by decide) (Nat.le_of_ble_eq_true rfl) rfl (fun p e s m below meth c ls X I hl _ => ?_)
  obtain ⟨S0, hr, hlocks, hK, hZ, hA⟩ := id X
  obtain ⟨hx, hb, hml, hown, hts⟩ := id S0
  unfold PX9_seed at h
  refine lv_iload_n hx hb (kn_dec tX9_seed 0 rfl) rfl (lv_at hl 1 rfl) ?_
  refine lv_if_ge (tgt := 6) hx hb (kn_dec tX9_seed 1 rfl) (by decide) (fun c1 => ?_) (fun c1 => ?_)
  · have h := h.1 c1
    refine lv_aload_n hx hb (kn_dec tX9_seed 4 rfl) rfl (lv_at hl 0 rfl) ?_
    refine kw_getl hx hb hts inX9 hown hK I 0 rfl rfl 1 (by decide) rfl (hts _ q4_201) (kn_dec tX9_seed 5 rfl) rfl ?_
    refine lv_bipush (v := (10)) hx hb (kn_dec tX9_seed 6 rfl) (by decide) ?_
    refine kw_iald hx hb hK I 0 rfl 1 12 (List.mem_of_getElem? (i := 0) rfl) (by unfold vp_in; decide) (kn_dec tX9_seed 7 rfl) ?_
    refine lv_topi (fun x2 ex2 => ?_)
    have h := h x2 ex2
    refine lv_istore_n (lv' := [(2, .int _), (0, .ref (ad_m 0)), (1, .int _)]) hx hb (kn_dec tX9_seed 8 rfl) rfl hl (by decide) rfl (fun ls hl => ?_)
    refine lv_aload_n hx hb (kn_dec tX9_seed 9 rfl) rfl (lv_at hl 1 rfl) ?_
    refine kw_getl hx hb hts inX9 hown hK I 0 rfl rfl 1 (by decide) rfl (hts _ q4_201) (kn_dec tX9_seed 10 rfl) rfl ?_
    refine lv_bipush (v := (10)) hx hb (kn_dec tX9_seed 11 rfl) (by decide) ?_
    refine lv_iload_n hx hb (kn_dec tX9_seed 12 rfl) rfl (lv_at hl 2 rfl) ?_
    refine kw_iast hx hb hK I 0 rfl 1 12 (List.mem_of_getElem? (i := 0) rfl) ukModel_1 (by unfold vp_in; decide) (kn_dec tX9_seed 13 rfl) (fun v_m3 ev_m3 H locs I => ?_)
    have h := h v_m3 ev_m3
    have I : kn_I D tc (kn_A _ s.heap.size) s.heap [(kModel, ad_m, _)] _ _ := I
    refine lv_iload_n hx hb (kn_dec tX9_seed 14 rfl) rfl (lv_at hl 0 rfl) ?_
    exact kw_iret hx hb hr hlocks I _ rfl h (kn_dec tX9_seed 15 rfl)
  · have h := h.2 c1
    refine lv_iconst (v := (-1)) hx hb (kn_dec tX9_seed 2 rfl) (by decide) ?_
    exact kw_iret hx hb hr hlocks I _ rfl h (kn_dec tX9_seed 3 rfl)

/-! X9_draws -/
abbrev rmX9_draws : Room := { frames := 0, cells := 0, slots := 0, locals := 0 }
def PX9_draws  (v_m : OV) (a1 : Int32) (post : Int32 → OV → Prop) : Prop := (∀ x1 : Int32, x1 = ((((((v_m.2.1 1 ((10 : Int32)).toNatClampNeg).toInt64) * ((1103515245 : Int64))) + ((12345 : Int64))) - ((((v_m.2.1 1 ((10 : Int32)).toNatClampNeg).toInt64) * ((1103515245 : Int64))) + ((12345 : Int64))) / ((2147483648 : Int64)) * ((2147483648 : Int64))).toInt32) → (∀ v_m2 : OV, v_m2 = sa v_m 1 (upd (v_m.2.1 1) ((10 : Int32)).toNatClampNeg x1) → (¬ a1 = 0 ∧ post (((v_m2.2.1 1 ((10 : Int32)).toNatClampNeg) / ((65536 : Int32))) - ((v_m2.2.1 1 ((10 : Int32)).toNatClampNeg) / ((65536 : Int32))) / a1 * a1) v_m2)))
set_option maxRecDepth 100000 in
set_option maxHeartbeats 1000000 in
theorem ctX9_draws {l : Launch} {D : va_G} {tc : Nat → ClassId} {Z : (Nat → Nat) × (Nat → Nat)}  {ad_m : Nat → Nat} {v_m : OV} {a1 : Int32}    {post : Int32 → OV → Prop} (h : PX9_draws  v_m a1 post) : CTi l D tc Z yX9_draws (Cond.code yX9_draws cX9_draws 2 (some .int) :: kn_all) rmX9_draws 0 0 [.ref (ad_m 0), .int a1] [(kModel, ad_m, v_m)] (fun (u : OV) => [(kModel, ad_m, u)]) (fun (r : Int32) (u : OV) => post r u) := by
  refine kn_ofi (cc := cX9_draws) (nL := 2) (ret := (some .int)) (lv := [(0, .ref (ad_m 0)), (1, .int a1)]) (by decide) (Nat.le_of_ble_eq_true rfl) rfl (fun p e s m below meth c ls X I hl _ => ?_)
  obtain ⟨S0, hr, hlocks, hK, hZ, hA⟩ := id X
  obtain ⟨hx, hb, hml, hown, hts⟩ := id S0
  unfold PX9_draws at h
  refine lv_aload_n hx hb (kn_dec tX9_draws 0 rfl) rfl (lv_at hl 0 rfl) ?_
  refine kw_getl hx hb hts inX9 hown hK I 0 rfl rfl 1 (by decide) rfl (hts _ q4_201) (kn_dec tX9_draws 1 rfl) rfl ?_
  refine lv_bipush (v := (10)) hx hb (kn_dec tX9_draws 2 rfl) (by decide) ?_
  refine lv_aload_n hx hb (kn_dec tX9_draws 3 rfl) rfl (lv_at hl 0 rfl) ?_
  refine kw_getl hx hb hts inX9 hown hK I 0 rfl rfl 1 (by decide) rfl (hts _ q4_201) (kn_dec tX9_draws 4 rfl) rfl ?_
  refine lv_bipush (v := (10)) hx hb (kn_dec tX9_draws 5 rfl) (by decide) ?_
  refine kw_iald hx hb hK I 0 rfl 1 12 (List.mem_of_getElem? (i := 0) rfl) (by unfold vp_in; decide) (kn_dec tX9_draws 6 rfl) ?_
  refine lv_i2l hx hb (kn_dec tX9_draws 7 rfl) rfl ?_
  refine lv_ldc2 (v := (1103515245)) hx hb hown (hts _ q7_106) (kn_dec tX9_draws 8 rfl) ?_
  refine lv_lmul hx hb (kn_dec tX9_draws 9 rfl) ?_
  refine lv_ldc2 (v := (12345)) hx hb hown (hts _ q7_107) (kn_dec tX9_draws 10 rfl) ?_
  refine lv_ladd hx hb (kn_dec tX9_draws 11 rfl) ?_
  refine lv_ldc2 (v := (2147483648)) hx hb hown (hts _ q7_108) (kn_dec tX9_draws 12 rfl) ?_
  refine lv_lrem hx hb (kn_dec tX9_draws 13 rfl) (by decide) ?_
  refine lv_l2i hx hb (kn_dec tX9_draws 14 rfl) rfl ?_
  refine lv_topi (fun x1 ex1 => ?_)
  have h := h x1 ex1
  refine kw_iast hx hb hK I 0 rfl 1 12 (List.mem_of_getElem? (i := 0) rfl) ukModel_1 (by unfold vp_in; decide) (kn_dec tX9_draws 15 rfl) (fun v_m2 ev_m2 H locs I => ?_)
  have h := h v_m2 ev_m2
  have I : kn_I D tc (kn_A _ s.heap.size) s.heap [(kModel, ad_m, _)] _ _ := I
  refine lv_aload_n hx hb (kn_dec tX9_draws 16 rfl) rfl (lv_at hl 0 rfl) ?_
  refine kw_getl hx hb hts inX9 hown hK I 0 rfl rfl 1 (by decide) rfl (hts _ q4_201) (kn_dec tX9_draws 17 rfl) rfl ?_
  refine lv_bipush (v := (10)) hx hb (kn_dec tX9_draws 18 rfl) (by decide) ?_
  refine kw_iald hx hb hK I 0 rfl 1 12 (List.mem_of_getElem? (i := 0) rfl) (by unfold vp_in; decide) (kn_dec tX9_draws 19 rfl) ?_
  refine lv_ldcw (v := (65536)) hx hb hown (hts _ q7_109) (kn_dec tX9_draws 20 rfl) ?_
  refine lv_idiv hx hb (kn_dec tX9_draws 21 rfl) (by decide) ?_
  refine lv_iload_n hx hb (kn_dec tX9_draws 22 rfl) rfl (lv_at hl 1 rfl) ?_
  obtain ⟨hs3, h⟩ := h
  refine lv_irem hx hb (kn_dec tX9_draws 23 rfl) hs3 ?_
  exact kw_iret hx hb hr hlocks I _ rfl h (kn_dec tX9_draws 24 rfl)

end
