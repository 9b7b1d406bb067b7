section
variable {p : Program} {l : Launch} {e : Env} {s : State} {m : MethodId} {args : Array Value} {below : List Frame} {meth : Method} {c : Code} {D : va_G} {tc : Nat → ClassId} {Z : (Nat → Nat) × (Nat → Nat)} {w0 : List CH}

/-! X6_begin -/
abbrev rmX6_begin : Room := { frames := 1, cells := 0, slots := 0, locals := 64 }
def PX6_begin_L73 (v_h : OV)  (post : OV → Prop) : Nat → Int32 → OV → Prop
  | 0, _, _ => False
  | n + 1, y2, v_s => ((((4 : Int32)) ≤ y2 → post v_s) ∧ (¬ ((4 : Int32)) ≤ y2 → (vp_in y2 4 ∧ (∀ v_s3 : OV, v_s3 = sa v_s 6 (upd (v_s.2.1 6) y2.toNatClampNeg ((-1 : Int32))) → (vp_in y2 4 ∧ (∀ v_s5 : OV, v_s5 = sa v_s3 7 (upd (v_s3.2.1 7) y2.toNatClampNeg ((0 : Int32))) → (vp_in y2 4 ∧ (∀ v_s7 : OV, v_s7 = sa v_s5 8 (upd (v_s5.2.1 8) y2.toNatClampNeg ((0 : Int32))) → (∀ x8 : Int32, x8 = y2 + (1 : Int32) → PX6_begin_L73 v_h post n x8 v_s7)))))))))
set_option maxRecDepth 100000 in
set_option maxHeartbeats 1000000 in
theorem wX6_begin_L73 {v_h : OV}  {post : OV → Prop} {ad_s : Nat → Nat} {ad_h : Nat → Nat} (X : kn_X p s m args meth c cX6_begin 3 none RX6 kn_all D tc Z (kn_A w0 s.heap.size))    : ∀ n : Nat, ∀ (H : Heap) (locs : List Loc) (ls : Array Slot) (y2 : Int32) (v_s : OV), kn_I D tc (kn_A w0 s.heap.size) s.heap [(kState, ad_s, v_s), (kHill, ad_h, v_h)] H locs → lv_has ls 3 [(0, .ref (ad_s 0)), (2, .int y2)] → PX6_begin_L73 v_h post n y2 v_s → W p l e rmX6_begin s m args below meth c H locs 0 0 (kn_Qv D tc w0 (fun (u : OV) => [(kState, ad_s, u), (kHill, ad_h, v_h)]) (fun (u : OV) => post u) below args s 0 0) (F0 m 73 ls []) := by
  obtain ⟨S0, hr, hlocks, hK, hZ, hA⟩ := id X
  obtain ⟨hx, hb, hml, hown, hts⟩ := id S0
  intro n
  induction n with
  | zero =>
    intro H locs ls y2 v_s I hl h
    unfold PX6_begin_L73 at h
    exact h.elim
  | succ n ih =>
    intro H locs ls y2 v_s I hl h
    unfold PX6_begin_L73 at h
    refine lv_iload_n hx hb (kn_dec tX6_begin 41 rfl) rfl (lv_at hl 1 rfl) ?_
    refine lv_iconst (v := (4)) hx hb (kn_dec tX6_begin 42 rfl) (by decide) ?_
    refine lv_icmp_ge (tgt := 105) hx hb (kn_dec tX6_begin 43 rfl) (by decide) (fun c1 => ?_) (fun c1 => ?_)
    · have h := h.1 c1
      exact kw_vret hx hb hr hlocks I _ rfl h (kn_dec tX6_begin 61 rfl)
    · have h := h.2 c1
      refine lv_aload_n hx hb (kn_dec tX6_begin 44 rfl) rfl (lv_at hl 0 rfl) ?_
      refine kw_getl hx hb hts inX6 hown hK I 0 rfl rfl 6 (by decide) rfl (hts _ q1_238) (kn_dec tX6_begin 45 rfl) rfl ?_
      refine lv_iload_n hx hb (kn_dec tX6_begin 46 rfl) rfl (lv_at hl 1 rfl) ?_
      refine lv_iconst (v := (-1)) hx hb (kn_dec tX6_begin 47 rfl) (by decide) ?_
      obtain ⟨hs2, h⟩ := h
      refine kw_iast hx hb hK I 0 rfl 6 4 (List.mem_of_getElem? (i := 3) rfl) ukState_6 hs2 (kn_dec tX6_begin 48 rfl) (fun v_s3 ev_s3 H locs I => ?_)
      have h := h v_s3 ev_s3
      have I : kn_I D tc (kn_A w0 s.heap.size) s.heap [(kState, ad_s, _), (kHill, ad_h, _)] _ _ := I
      refine lv_aload_n hx hb (kn_dec tX6_begin 49 rfl) rfl (lv_at hl 0 rfl) ?_
      refine kw_getl hx hb hts inX6 hown hK I 0 rfl rfl 7 (by decide) rfl (hts _ q2_1) (kn_dec tX6_begin 50 rfl) rfl ?_
      refine lv_iload_n hx hb (kn_dec tX6_begin 51 rfl) rfl (lv_at hl 1 rfl) ?_
      refine lv_iconst (v := (0)) hx hb (kn_dec tX6_begin 52 rfl) (by decide) ?_
      obtain ⟨hs4, h⟩ := h
      refine kw_iast hx hb hK I 0 rfl 7 4 (List.mem_of_getElem? (i := 4) rfl) ukState_7 hs4 (kn_dec tX6_begin 53 rfl) (fun v_s5 ev_s5 H locs I => ?_)
      have h := h v_s5 ev_s5
      have I : kn_I D tc (kn_A w0 s.heap.size) s.heap [(kState, ad_s, _), (kHill, ad_h, _)] _ _ := I
      refine lv_aload_n hx hb (kn_dec tX6_begin 54 rfl) rfl (lv_at hl 0 rfl) ?_
      refine kw_getl hx hb hts inX6 hown hK I 0 rfl rfl 8 (by decide) rfl (hts _ q2_4) (kn_dec tX6_begin 55 rfl) rfl ?_
      refine lv_iload_n hx hb (kn_dec tX6_begin 56 rfl) rfl (lv_at hl 1 rfl) ?_
      refine lv_iconst (v := (0)) hx hb (kn_dec tX6_begin 57 rfl) (by decide) ?_
      obtain ⟨hs6, h⟩ := h
      refine kw_iast hx hb hK I 0 rfl 8 4 (List.mem_of_getElem? (i := 5) rfl) ukState_8 hs6 (kn_dec tX6_begin 58 rfl) (fun v_s7 ev_s7 H locs I => ?_)
      have h := h v_s7 ev_s7
      have I : kn_I D tc (kn_A w0 s.heap.size) s.heap [(kState, ad_s, _), (kHill, ad_h, _)] _ _ := I
      refine kw_iinc (lvf := fun y => [(2, .int y), (0, .ref (ad_s 0))]) (nv := (1)) hx hb (kn_dec tX6_begin 59 rfl) hl (k := 1) rfl (by decide) (by decide) (fun _ => rfl) (fun x8 ex8 ls hl => ?_)
      have h := h x8 ex8
      refine lv_goto (tgt := 73) hx hb (kn_dec tX6_begin 60 rfl) (by decide) ?_
      exact ih _ _ _ _ _  I (lv_sub hl [1, 0] rfl) h
def PX6_begin_L52 (v_h : OV)  (post : OV → Prop) : Nat → Int32 → OV → Prop
  | 0, _, _ => False
  | n + 1, y2, v_s => ((((10 : Int32)) ≤ y2 → (∃ n2 : Nat, PX6_begin_L73 v_h post n2 ((0 : Int32)) v_s)) ∧ (¬ ((10 : Int32)) ≤ y2 → (vp_in y2 10 ∧ (∀ v_s4 : OV, v_s4 = sa v_s 3 (upd (v_s.2.1 3) y2.toNatClampNeg ((0 : Int32))) → (∀ x5 : Int32, x5 = y2 + (1 : Int32) → PX6_begin_L52 v_h post n x5 v_s4)))))
set_option maxRecDepth 100000 in
set_option maxHeartbeats 1000000 in
theorem wX6_begin_L52 {v_h : OV}  {post : OV → Prop} {ad_s : Nat → Nat} {ad_h : Nat → Nat} (X : kn_X p s m args meth c cX6_begin 3 none RX6 kn_all D tc Z (kn_A w0 s.heap.size))    : ∀ n : Nat, ∀ (H : Heap) (locs : List Loc) (ls : Array Slot) (y2 : Int32) (v_s : OV), kn_I D tc (kn_A w0 s.heap.size) s.heap [(kState, ad_s, v_s), (kHill, ad_h, v_h)] H locs → lv_has ls 3 [(0, .ref (ad_s 0)), (2, .int y2)] → PX6_begin_L52 v_h post n y2 v_s → W p l e rmX6_begin s m args below meth c H locs 0 0 (kn_Qv D tc w0 (fun (u : OV) => [(kState, ad_s, u), (kHill, ad_h, v_h)]) (fun (u : OV) => post u) below args s 0 0) (F0 m 52 ls []) := by
  obtain ⟨S0, hr, hlocks, hK, hZ, hA⟩ := id X
  obtain ⟨hx, hb, hml, hown, hts⟩ := id S0
  intro n
  induction n with
  | zero =>
    intro H locs ls y2 v_s I hl h
    unfold PX6_begin_L52 at h
    exact h.elim
  | succ n ih =>
    intro H locs ls y2 v_s I hl h
    unfold PX6_begin_L52 at h
    refine lv_iload_n hx hb (kn_dec tX6_begin 29 rfl) rfl (lv_at hl 1 rfl) ?_
    refine lv_bipush (v := (10)) hx hb (kn_dec tX6_begin 30 rfl) (by decide) ?_
    refine lv_icmp_ge (tgt := 71) hx hb (kn_dec tX6_begin 31 rfl) (by decide) (fun c1 => ?_) (fun c1 => ?_)
    · have h := h.1 c1
      refine lv_iconst (v := (0)) hx hb (kn_dec tX6_begin 39 rfl) (by decide) ?_
      refine lv_istore_n (lv' := [(2, .int _), (0, .ref (ad_s 0))]) hx hb (kn_dec tX6_begin 40 rfl) rfl hl (by decide) rfl (fun ls hl => ?_)
      obtain ⟨n2, h⟩ := h
      exact wX6_begin_L73 X n2 _ _ _ _ _  I (lv_sub hl [1, 0] rfl) h
    · have h := h.2 c1
      refine lv_aload_n hx hb (kn_dec tX6_begin 32 rfl) rfl (lv_at hl 0 rfl) ?_
      refine kw_getl hx hb hts inX6 hown hK I 0 rfl rfl 3 (by decide) rfl (hts _ q1_228) (kn_dec tX6_begin 33 rfl) rfl ?_
      refine lv_iload_n hx hb (kn_dec tX6_begin 34 rfl) rfl (lv_at hl 1 rfl) ?_
      refine lv_iconst (v := (0)) hx hb (kn_dec tX6_begin 35 rfl) (by decide) ?_
      obtain ⟨hs3, h⟩ := h
      refine kw_iast hx hb hK I 0 rfl 3 10 (List.mem_of_getElem? (i := 0) rfl) ukState_3 hs3 (kn_dec tX6_begin 36 rfl) (fun v_s4 ev_s4 H locs I => ?_)
      have h := h v_s4 ev_s4
      have I : kn_I D tc (kn_A w0 s.heap.size) s.heap [(kState, ad_s, _), (kHill, ad_h, _)] _ _ := I
      refine kw_iinc (lvf := fun y => [(2, .int y), (0, .ref (ad_s 0))]) (nv := (1)) hx hb (kn_dec tX6_begin 37 rfl) hl (k := 1) rfl (by decide) (by decide) (fun _ => rfl) (fun x5 ex5 ls hl => ?_)
      have h := h x5 ex5
      refine lv_goto (tgt := 52) hx hb (kn_dec tX6_begin 38 rfl) (by decide) ?_
      exact ih _ _ _ _ _  I (lv_sub hl [1, 0] rfl) h
def PX6_begin  (v_s : OV) (v_h : OV) (post : OV → Prop) : Prop := (∀ v_s1 : OV, v_s1 = si v_s 0 ((0 : Int32)) → (∀ x2 : Int32, x2 = (v_h.1 1) → (∀ v_s3 : OV, v_s3 = si v_s1 1 x2 → (∀ x4 : Int32, x4 = (v_h.1 8) → (∀ v_s5 : OV, v_s5 = si v_s3 2 x4 → (∀ v_s6 : OV, v_s6 = sa v_s5 4 (va_cpy (v_h.2.1 10) (v_s5.2.1 4) ((0 : Int32)).toNatClampNeg ((0 : Int32)).toNatClampNeg ((6 : Int32)).toNatClampNeg) → (∀ v_s7 : OV, v_s7 = sa v_s6 5 (va_cpy (v_h.2.1 14) (v_s6.2.1 5) ((0 : Int32)).toNatClampNeg ((0 : Int32)).toNatClampNeg ((4 : Int32)).toNatClampNeg) → (∃ n8 : Nat, PX6_begin_L52 v_h post n8 ((0 : Int32)) v_s7))))))))
set_option maxRecDepth 100000 in
set_option maxHeartbeats 1000000 in
theorem ctX6_begin {l : Launch} {D : va_G} {tc : Nat → ClassId} {Z : (Nat → Nat) × (Nat → Nat)}  {ad_s : Nat → Nat} {ad_h : Nat → Nat} {v_s : OV} {v_h : OV}    {post : OV → Prop} (h : PX6_begin  v_s v_h post) : CTv l D tc Z yX6_begin (Cond.code yX6_begin cX6_begin 3 none :: kn_all) rmX6_begin 0 0 [.ref (ad_s 0), .ref (ad_h 0)] [(kState, ad_s, v_s), (kHill, ad_h, v_h)] (fun (u : OV) => [(kState, ad_s, u), (kHill, ad_h, v_h)]) (fun (u : OV) => post u) := by
  refine kn_ofv (cc := cX6_begin) (nL := 3) (ret := none) (lv := [(0, .ref (ad_s 0)), (1, .ref (ad_h 0))]) (by decide) (Nat.le_of_ble_eq_true rfl) rfl (fun p e s m below meth c ls X I hl _ => ?_)
  obtain ⟨S0, hr, hlocks, hK, hZ, hA⟩ := id X
  obtain ⟨hx, hb, hml, hown, hts⟩ := id S0
  unfold PX6_begin at h
  refine lv_aload_n hx hb (kn_dec tX6_begin 0 rfl) rfl (lv_at hl 0 rfl) ?_
  refine lv_iconst (v := (0)) hx hb (kn_dec tX6_begin 1 rfl) (by decide) ?_
  refine kw_puti hx hb hts inX6 tyX6 tyX6_ok nmX6 hown hK I 0 rfl rfl 0 (by decide) rfl (hts _ q1_219) rfl rfl rfl (kn_dec tX6_begin 2 rfl) (fun v_s1 ev_s1 H locs I => ?_)
  have h := h v_s1 ev_s1
  have I : kn_I D tc (kn_A _ s.heap.size) s.heap [(kState, ad_s, _), (kHill, ad_h, _)] _ _ := I
  refine lv_aload_n hx hb (kn_dec tX6_begin 3 rfl) rfl (lv_at hl 0 rfl) ?_
  refine lv_aload_n hx hb (kn_dec tX6_begin 4 rfl) rfl (lv_at hl 1 rfl) ?_
  refine kw_geti hx hb hts inX0 hown hK I 1 rfl rfl 1 (by decide) rfl (hts _ q1_120) (kn_dec tX6_begin 5 rfl) ?_
  refine lv_topi (fun x2 ex2 => ?_)
  have h := h x2 ex2
  refine kw_puti hx hb hts inX6 tyX6 tyX6_ok nmX6 hown hK I 0 rfl rfl 1 (by decide) rfl (hts _ q1_222) rfl rfl rfl (kn_dec tX6_begin 6 rfl) (fun v_s3 ev_s3 H locs I => ?_)
  have h := h v_s3 ev_s3
  have I : kn_I D tc (kn_A _ s.heap.size) s.heap [(kState, ad_s, _), (kHill, ad_h, _)] _ _ := I
  refine lv_aload_n hx hb (kn_dec tX6_begin 7 rfl) rfl (lv_at hl 0 rfl) ?_
  refine lv_aload_n hx hb (kn_dec tX6_begin 8 rfl) rfl (lv_at hl 1 rfl) ?_
  refine kw_geti hx hb hts inX0 hown hK I 1 rfl rfl 8 (by decide) rfl (hts _ q1_146) (kn_dec tX6_begin 9 rfl) ?_
  refine lv_topi (fun x4 ex4 => ?_)
  have h := h x4 ex4
  refine kw_puti hx hb hts inX6 tyX6 tyX6_ok nmX6 hown hK I 0 rfl rfl 2 (by decide) rfl (hts _ q1_225) rfl rfl rfl (kn_dec tX6_begin 10 rfl) (fun v_s5 ev_s5 H locs I => ?_)
  have h := h v_s5 ev_s5
  have I : kn_I D tc (kn_A _ s.heap.size) s.heap [(kState, ad_s, _), (kHill, ad_h, _)] _ _ := I
  refine lv_aload_n hx hb (kn_dec tX6_begin 11 rfl) rfl (lv_at hl 1 rfl) ?_
  refine kw_getl hx hb hts inX0 hown hK I 1 rfl rfl 10 (by decide) rfl (hts _ q1_152) (kn_dec tX6_begin 12 rfl) rfl ?_
  refine lv_iconst (v := (0)) hx hb (kn_dec tX6_begin 13 rfl) (by decide) ?_
  refine lv_aload_n hx hb (kn_dec tX6_begin 14 rfl) rfl (lv_at hl 0 rfl) ?_
  refine kw_getl hx hb hts inX6 hown hK I 0 rfl rfl 4 (by decide) rfl (hts _ q1_232) (kn_dec tX6_begin 15 rfl) rfl ?_
  refine lv_iconst (v := (0)) hx hb (kn_dec tX6_begin 16 rfl) (by decide) ?_
  refine lv_bipush (v := (6)) hx hb (kn_dec tX6_begin 17 rfl) (by decide) ?_
  refine kw_copy hx hb (hml.trans hl.1.symm) hown (hts _ q3_39) (hts _ q3_41) (hts _ q3_40) (hts _ q1_16) hK I 1 0 rfl rfl 10 6 4 6 (List.mem_of_getElem? (i := 3) rfl) (List.mem_of_getElem? (i := 1) rfl) ukState_4 (by decide) (by decide) (by decide) (by decide) (by decide) (Nat.le_of_ble_eq_true rfl) (Nat.le_of_ble_eq_true rfl) (kn_dec tX6_begin 18 rfl) (fun v_s6 ev_s6 H locs I => ?_)
  have h := h v_s6 ev_s6
  have I : kn_I D tc (kn_A _ s.heap.size) s.heap [(kState, ad_s, _), (kHill, ad_h, _)] _ _ := I
  refine lv_aload_n hx hb (kn_dec tX6_begin 19 rfl) rfl (lv_at hl 1 rfl) ?_
  refine kw_getl hx hb hts inX0 hown hK I 1 rfl rfl 14 (by decide) rfl (hts _ q1_166) (kn_dec tX6_begin 20 rfl) rfl ?_
  refine lv_iconst (v := (0)) hx hb (kn_dec tX6_begin 21 rfl) (by decide) ?_
  refine lv_aload_n hx hb (kn_dec tX6_begin 22 rfl) rfl (lv_at hl 0 rfl) ?_
  refine kw_getl hx hb hts inX6 hown hK I 0 rfl rfl 5 (by decide) rfl (hts _ q1_235) (kn_dec tX6_begin 23 rfl) rfl ?_
  refine lv_iconst (v := (0)) hx hb (kn_dec tX6_begin 24 rfl) (by decide) ?_
  refine lv_iconst (v := (4)) hx hb (kn_dec tX6_begin 25 rfl) (by decide) ?_
  refine kw_copy hx hb (hml.trans hl.1.symm) hown (hts _ q3_39) (hts _ q3_41) (hts _ q3_40) (hts _ q1_16) hK I 1 0 rfl rfl 14 4 5 4 (List.mem_of_getElem? (i := 6) rfl) (List.mem_of_getElem? (i := 2) rfl) ukState_5 (by decide) (by decide) (by decide) (by decide) (by decide) (Nat.le_of_ble_eq_true rfl) (Nat.le_of_ble_eq_true rfl) (kn_dec tX6_begin 26 rfl) (fun v_s7 ev_s7 H locs I => ?_)
  have h := h v_s7 ev_s7
  have I : kn_I D tc (kn_A _ s.heap.size) s.heap [(kState, ad_s, _), (kHill, ad_h, _)] _ _ := I
  refine lv_iconst (v := (0)) hx hb (kn_dec tX6_begin 27 rfl) (by decide) ?_
  refine lv_istore_n (lv' := [(2, .int _), (0, .ref (ad_s 0)), (1, .ref (ad_h 0))]) hx hb (kn_dec tX6_begin 28 rfl) rfl hl (by decide) rfl (fun ls hl => ?_)
  obtain ⟨n8, h⟩ := h
  exact wX6_begin_L52 X n8 _ _ _ _ _  I (lv_sub hl [1, 0] rfl) h

/-! X6_copy -/
abbrev rmX6_copy : Room := { frames := 1, cells := 0, slots := 0, locals := 64 }
def PX6_copy  (v_s : OV) (v_z : OV) (post : OV → Prop) : Prop := (∀ x1 : Int32, x1 = (v_z.1 0) → (∀ v_s2 : OV, v_s2 = si v_s 0 x1 → (∀ x3 : Int32, x3 = (v_z.1 1) → (∀ v_s4 : OV, v_s4 = si v_s2 1 x3 → (∀ x5 : Int32, x5 = (v_z.1 2) → (∀ v_s6 : OV, v_s6 = si v_s4 2 x5 → (∀ v_s7 : OV, v_s7 = sa v_s6 3 (va_cpy (v_z.2.1 3) (v_s6.2.1 3) ((0 : Int32)).toNatClampNeg ((0 : Int32)).toNatClampNeg ((10 : Int32)).toNatClampNeg) → (∀ v_s8 : OV, v_s8 = sa v_s7 4 (va_cpy (v_z.2.1 4) (v_s7.2.1 4) ((0 : Int32)).toNatClampNeg ((0 : Int32)).toNatClampNeg ((6 : Int32)).toNatClampNeg) → (∀ v_s9 : OV, v_s9 = sa v_s8 5 (va_cpy (v_z.2.1 5) (v_s8.2.1 5) ((0 : Int32)).toNatClampNeg ((0 : Int32)).toNatClampNeg ((4 : Int32)).toNatClampNeg) → (∀ v_s10 : OV, v_s10 = sa v_s9 6 (va_cpy (v_z.2.1 6) (v_s9.2.1 6) ((0 : Int32)).toNatClampNeg ((0 : Int32)).toNatClampNeg ((4 : Int32)).toNatClampNeg) → (∀ v_s11 : OV, v_s11 = sa v_s10 7 (va_cpy (v_z.2.1 7) (v_s10.2.1 7) ((0 : Int32)).toNatClampNeg ((0 : Int32)).toNatClampNeg ((4 : Int32)).toNatClampNeg) → (∀ v_s12 : OV, v_s12 = sa v_s11 8 (va_cpy (v_z.2.1 8) (v_s11.2.1 8) ((0 : Int32)).toNatClampNeg ((0 : Int32)).toNatClampNeg ((4 : Int32)).toNatClampNeg) → post v_s12))))))))))))
set_option maxRecDepth 100000 in
set_option maxHeartbeats 1000000 in
theorem ctX6_copy {l : Launch} {D : va_G} {tc : Nat → ClassId} {Z : (Nat → Nat) × (Nat → Nat)}  {ad_s : Nat → Nat} {ad_z : Nat → Nat} {v_s : OV} {v_z : OV}    {post : OV → Prop} (h : PX6_copy  v_s v_z post) : CTv l D tc Z yX6_copy (Cond.code yX6_copy cX6_copy 2 none :: kn_all) rmX6_copy 0 0 [.ref (ad_s 0), .ref (ad_z 0)] [(kState, ad_s, v_s), (kState, ad_z, v_z)] (fun (u : OV) => [(kState, ad_s, u), (kState, ad_z, v_z)]) (fun (u : OV) => post u) := by
  refine kn_ofv (cc := cX6_copy) (nL := 2) (ret := none) (lv := [(0, .ref (ad_s 0)), (1, .ref (ad_z 0))]) (by decide) (Nat.le_of_ble_eq_true rfl) rfl (fun p e s m below meth c ls X I hl _ => ?_)
  obtain ⟨S0, hr, hlocks, hK, hZ, hA⟩ := id X
  obtain ⟨hx, hb, hml, hown, hts⟩ := id S0
  unfold PX6_copy at h
  refine lv_aload_n hx hb (kn_dec tX6_copy 0 rfl) rfl (lv_at hl 0 rfl) ?_
  refine lv_aload_n hx hb (kn_dec tX6_copy 1 rfl) rfl (lv_at hl 1 rfl) ?_
  refine kw_geti hx hb hts inX6 hown hK I 1 rfl rfl 0 (by decide) rfl (hts _ q1_219) (kn_dec tX6_copy 2 rfl) ?_
  refine lv_topi (fun x1 ex1 => ?_)
  have h := h x1 ex1
  refine kw_puti hx hb hts inX6 tyX6 tyX6_ok nmX6 hown hK I 0 rfl rfl 0 (by decide) rfl (hts _ q1_219) rfl rfl rfl (kn_dec tX6_copy 3 rfl) (fun v_s2 ev_s2 H locs I => ?_)
  have h := h v_s2 ev_s2
  have I : kn_I D tc (kn_A _ s.heap.size) s.heap [(kState, ad_s, _), (kState, ad_z, _)] _ _ := I
  refine lv_aload_n hx hb (kn_dec tX6_copy 4 rfl) rfl (lv_at hl 0 rfl) ?_
  refine lv_aload_n hx hb (kn_dec tX6_copy 5 rfl) rfl (lv_at hl 1 rfl) ?_
  refine kw_geti hx hb hts inX6 hown hK I 1 rfl rfl 1 (by decide) rfl (hts _ q1_222) (kn_dec tX6_copy 6 rfl) ?_
  refine lv_topi (fun x3 ex3 => ?_)
  have h := h x3 ex3
  refine kw_puti hx hb hts inX6 tyX6 tyX6_ok nmX6 hown hK I 0 rfl rfl 1 (by decide) rfl (hts _ q1_222) rfl rfl rfl (kn_dec tX6_copy 7 rfl) (fun v_s4 ev_s4 H locs I => ?_)
  have h := h v_s4 ev_s4
  have I : kn_I D tc (kn_A _ s.heap.size) s.heap [(kState, ad_s, _), (kState, ad_z, _)] _ _ := I
  refine lv_aload_n hx hb (kn_dec tX6_copy 8 rfl) rfl (lv_at hl 0 rfl) ?_
  refine lv_aload_n hx hb (kn_dec tX6_copy 9 rfl) rfl (lv_at hl 1 rfl) ?_
  refine kw_geti hx hb hts inX6 hown hK I 1 rfl rfl 2 (by decide) rfl (hts _ q1_225) (kn_dec tX6_copy 10 rfl) ?_
  refine lv_topi (fun x5 ex5 => ?_)
  have h := h x5 ex5
  refine kw_puti hx hb hts inX6 tyX6 tyX6_ok nmX6 hown hK I 0 rfl rfl 2 (by decide) rfl (hts _ q1_225) rfl rfl rfl (kn_dec tX6_copy 11 rfl) (fun v_s6 ev_s6 H locs I => ?_)
  have h := h v_s6 ev_s6
  have I : kn_I D tc (kn_A _ s.heap.size) s.heap [(kState, ad_s, _), (kState, ad_z, _)] _ _ := I
  refine lv_aload_n hx hb (kn_dec tX6_copy 12 rfl) rfl (lv_at hl 1 rfl) ?_
  refine kw_getl hx hb hts inX6 hown hK I 1 rfl rfl 3 (by decide) rfl (hts _ q1_228) (kn_dec tX6_copy 13 rfl) rfl ?_
  refine lv_iconst (v := (0)) hx hb (kn_dec tX6_copy 14 rfl) (by decide) ?_
  refine lv_aload_n hx hb (kn_dec tX6_copy 15 rfl) rfl (lv_at hl 0 rfl) ?_
  refine kw_getl hx hb hts inX6 hown hK I 0 rfl rfl 3 (by decide) rfl (hts _ q1_228) (kn_dec tX6_copy 16 rfl) rfl ?_
  refine lv_iconst (v := (0)) hx hb (kn_dec tX6_copy 17 rfl) (by decide) ?_
  refine lv_bipush (v := (10)) hx hb (kn_dec tX6_copy 18 rfl) (by decide) ?_
  refine kw_copy hx hb (hml.trans hl.1.symm) hown (hts _ q3_39) (hts _ q3_41) (hts _ q3_40) (hts _ q1_16) hK I 1 0 rfl rfl 3 10 3 10 (List.mem_of_getElem? (i := 0) rfl) (List.mem_of_getElem? (i := 0) rfl) ukState_3 (by decide) (by decide) (by decide) (by decide) (by decide) (Nat.le_of_ble_eq_true rfl) (Nat.le_of_ble_eq_true rfl) (kn_dec tX6_copy 19 rfl) (fun v_s7 ev_s7 H locs I => ?_)
  have h := h v_s7 ev_s7
  have I : kn_I D tc (kn_A _ s.heap.size) s.heap [(kState, ad_s, _), (kState, ad_z, _)] _ _ := I
  refine lv_aload_n hx hb (kn_dec tX6_copy 20 rfl) rfl (lv_at hl 1 rfl) ?_
  refine kw_getl hx hb hts inX6 hown hK I 1 rfl rfl 4 (by decide) rfl (hts _ q1_232) (kn_dec tX6_copy 21 rfl) rfl ?_
  refine lv_iconst (v := (0)) hx hb (kn_dec tX6_copy 22 rfl) (by decide) ?_
  refine lv_aload_n hx hb (kn_dec tX6_copy 23 rfl) rfl (lv_at hl 0 rfl) ?_
  refine kw_getl hx hb hts inX6 hown hK I 0 rfl rfl 4 (by decide) rfl (hts _ q1_232) (kn_dec tX6_copy 24 rfl) rfl ?_
  refine lv_iconst (v := (0)) hx hb (kn_dec tX6_copy 25 rfl) (by decide) ?_
  refine lv_bipush (v := (6)) hx hb (kn_dec tX6_copy 26 rfl) (by decide) ?_
  refine kw_copy hx hb (hml.trans hl.1.symm) hown (hts _ q3_39) (hts _ q3_41) (hts _ q3_40) (hts _ q1_16) hK I 1 0 rfl rfl 4 6 4 6 (List.mem_of_getElem? (i := 1) rfl) (List.mem_of_getElem? (i := 1) rfl) ukState_4 (by decide) (by decide) (by decide) (by decide) (by decide) (Nat.le_of_ble_eq_true rfl) (Nat.le_of_ble_eq_true rfl) (kn_dec tX6_copy 27 rfl) (fun v_s8 ev_s8 H locs I => ?_)
  have h := h v_s8 ev_s8
  have I : kn_I D tc (kn_A _ s.heap.size) s.heap [(kState, ad_s, _), (kState, ad_z, _)] _ _ := I
  refine lv_aload_n hx hb (kn_dec tX6_copy 28 rfl) rfl (lv_at hl 1 rfl) ?_
  refine kw_getl hx hb hts inX6 hown hK I 1 rfl rfl 5 (by decide) rfl (hts _ q1_235) (kn_dec tX6_copy 29 rfl) rfl ?_
  refine lv_iconst (v := (0)) hx hb (kn_dec tX6_copy 30 rfl) (by decide) ?_
  refine lv_aload_n hx hb (kn_dec tX6_copy 31 rfl) rfl (lv_at hl 0 rfl) ?_
  refine kw_getl hx hb hts inX6 hown hK I 0 rfl rfl 5 (by decide) rfl (hts _ q1_235) (kn_dec tX6_copy 32 rfl) rfl ?_
  refine lv_iconst (v := (0)) hx hb (kn_dec tX6_copy 33 rfl) (by decide) ?_
  refine lv_iconst (v := (4)) hx hb (kn_dec tX6_copy 34 rfl) (by decide) ?_
  refine kw_copy hx hb (hml.trans hl.1.symm) hown (hts _ q3_39) (hts _ q3_41) (hts _ q3_40) (hts _ q1_16) hK I 1 0 rfl rfl 5 4 5 4 (List.mem_of_getElem? (i := 2) rfl) (List.mem_of_getElem? (i := 2) rfl) ukState_5 (by decide) (by decide) (by decide) (by decide) (by decide) (Nat.le_of_ble_eq_true rfl) (Nat.le_of_ble_eq_true rfl) (kn_dec tX6_copy 35 rfl) (fun v_s9 ev_s9 H locs I => ?_)
  have h := h v_s9 ev_s9
  have I : kn_I D tc (kn_A _ s.heap.size) s.heap [(kState, ad_s, _), (kState, ad_z, _)] _ _ := I
  refine lv_aload_n hx hb (kn_dec tX6_copy 36 rfl) rfl (lv_at hl 1 rfl) ?_
  refine kw_getl hx hb hts inX6 hown hK I 1 rfl rfl 6 (by decide) rfl (hts _ q1_238) (kn_dec tX6_copy 37 rfl) rfl ?_
  refine lv_iconst (v := (0)) hx hb (kn_dec tX6_copy 38 rfl) (by decide) ?_
  refine lv_aload_n hx hb (kn_dec tX6_copy 39 rfl) rfl (lv_at hl 0 rfl) ?_
  refine kw_getl hx hb hts inX6 hown hK I 0 rfl rfl 6 (by decide) rfl (hts _ q1_238) (kn_dec tX6_copy 40 rfl) rfl ?_
  refine lv_iconst (v := (0)) hx hb (kn_dec tX6_copy 41 rfl) (by decide) ?_
  refine lv_iconst (v := (4)) hx hb (kn_dec tX6_copy 42 rfl) (by decide) ?_
  refine kw_copy hx hb (hml.trans hl.1.symm) hown (hts _ q3_39) (hts _ q3_41) (hts _ q3_40) (hts _ q1_16) hK I 1 0 rfl rfl 6 4 6 4 (List.mem_of_getElem? (i := 3) rfl) (List.mem_of_getElem? (i := 3) rfl) ukState_6 (by decide) (by decide) (by decide) (by decide) (by decide) (Nat.le_of_ble_eq_true rfl) (Nat.le_of_ble_eq_true rfl) (kn_dec tX6_copy 43 rfl) (fun v_s10 ev_s10 H locs I => ?_)
  have h := h v_s10 ev_s10
  have I : kn_I D tc (kn_A _ s.heap.size) s.heap [(kState, ad_s, _), (kState, ad_z, _)] _ _ := I
  refine lv_aload_n hx hb (kn_dec tX6_copy 44 rfl) rfl (lv_at hl 1 rfl) ?_
  refine kw_getl hx hb hts inX6 hown hK I 1 rfl rfl 7 (by decide) rfl (hts _ q2_1) (kn_dec tX6_copy 45 rfl) rfl ?_
  refine lv_iconst (v := (0)) hx hb (kn_dec tX6_copy 46 rfl) (by decide) ?_
  refine lv_aload_n hx hb (kn_dec tX6_copy 47 rfl) rfl (lv_at hl 0 rfl) ?_
  refine kw_getl hx hb hts inX6 hown hK I 0 rfl rfl 7 (by decide) rfl (hts _ q2_1) (kn_dec tX6_copy 48 rfl) rfl ?_
  refine lv_iconst (v := (0)) hx hb (kn_dec tX6_copy 49 rfl) (by decide) ?_
  refine lv_iconst (v := (4)) hx hb (kn_dec tX6_copy 50 rfl) (by decide) ?_
  refine kw_copy hx hb (hml.trans hl.1.symm) hown (hts _ q3_39) (hts _ q3_41) (hts _ q3_40) (hts _ q1_16) hK I 1 0 rfl rfl 7 4 7 4 (List.mem_of_getElem? (i := 4) rfl) (List.mem_of_getElem? (i := 4) rfl) ukState_7 (by decide) (by decide) (by decide) (by decide) (by decide) (Nat.le_of_ble_eq_true rfl) (Nat.le_of_ble_eq_true rfl) (kn_dec tX6_copy 51 rfl) (fun v_s11 ev_s11 H locs I => ?_)
  have h := h v_s11 ev_s11
  have I : kn_I D tc (kn_A _ s.heap.size) s.heap [(kState, ad_s, _), (kState, ad_z, _)] _ _ := I
  refine lv_aload_n hx hb (kn_dec tX6_copy 52 rfl) rfl (lv_at hl 1 rfl) ?_
  refine kw_getl hx hb hts inX6 hown hK I 1 rfl rfl 8 (by decide) rfl (hts _ q2_4) (kn_dec tX6_copy 53 rfl) rfl ?_
  refine lv_iconst (v := (0)) hx hb (kn_dec tX6_copy 54 rfl) (by decide) ?_
  refine lv_aload_n hx hb (kn_dec tX6_copy 55 rfl) rfl (lv_at hl 0 rfl) ?_
  refine kw_getl hx hb hts inX6 hown hK I 0 rfl rfl 8 (by decide) rfl (hts _ q2_4) (kn_dec tX6_copy 56 rfl) rfl ?_
  refine lv_iconst (v := (0)) hx hb (kn_dec tX6_copy 57 rfl) (by decide) ?_
  refine lv_iconst (v := (4)) hx hb (kn_dec tX6_copy 58 rfl) (by decide) ?_
  refine kw_copy hx hb (hml.trans hl.1.symm) hown (hts _ q3_39) (hts _ q3_41) (hts _ q3_40) (hts _ q1_16) hK I 1 0 rfl rfl 8 4 8 4 (List.mem_of_getElem? (i := 5) rfl) (List.mem_of_getElem? (i := 5) rfl) ukState_8 (by decide) (by decide) (by decide) (by decide) (by decide) (Nat.le_of_ble_eq_true rfl) (Nat.le_of_ble_eq_true rfl) (kn_dec tX6_copy 59 rfl) (fun v_s12 ev_s12 H locs I => ?_)
  have h := h v_s12 ev_s12
  have I : kn_I D tc (kn_A _ s.heap.size) s.heap [(kState, ad_s, _), (kState, ad_z, _)] _ _ := I
  exact kw_vret hx hb hr hlocks I _ rfl h (kn_dec tX6_copy 60 rfl)

/-! X6_finders -/
abbrev rmX6_finders : Room := { frames := 1, cells := 0, slots := 0, locals := 22 }
def PX6_finders  (v_s : OV) (post : Int32 → Prop) : Prop := (PX6_finderBits v_s (fun r1 => (PJ6_bitCount_0f7a4 r1 (fun r3 => post r3))))
set_option maxRecDepth 100000 in
set_option maxHeartbeats 1000000 in
theorem ctX6_finders {l : Launch} {D : va_G} {tc : Nat → ClassId} {Z : (Nat → Nat) × (Nat → Nat)}  {ad_s : Nat → Nat} {v_s : OV}    {post : Int32 → Prop} (h : PX6_finders  v_s post) : CTi l D tc Z yX6_finders (Cond.code yX6_finders cX6_finders 1 (some .int) :: kn_all) rmX6_finders 0 0 [.ref (ad_s 0)] [(kState, ad_s, v_s)] (fun (u : Unit) => [(kState, ad_s, v_s)]) (fun (r : Int32) (u : Unit) => post r) := by
  refine kn_ofi (cc := cX6_finders) (nL := 1) (ret := (some .int)) (lv := [(0, .ref (ad_s 0))]) (by decide) (Nat.le_of_ble_eq_true rfl) rfl (fun p e s m below meth c ls X I hl _ => ?_)
  obtain ⟨S0, hr, hlocks, hK, hZ, hA⟩ := id X
  obtain ⟨hx, hb, hml, hown, hts⟩ := id S0
  unfold PX6_finders at h
  refine lv_aload_n hx hb (kn_dec tX6_finders 0 rfl) rfl (lv_at hl 0 rfl) ?_
  refine kw_calli (wc := [(kState, ad_s, _)]) (wr := []) I hA [0] [] rfl rfl (by decide) (by decide) (kn_runV (As := []) S0 hK hZ hA I ((ctX6_finderBits h).met _) (kn_cwV 0 hts q3_199 q3_200 q3_201 q1_8 q3_202 rfl rfl (by decide +kernel) ⟨(Nat.le_of_ble_eq_true rfl), (Nat.le_of_ble_eq_true rfl)⟩) [0] rfl (by decide) 0 rfl rfl rfl rfl hl.1 rfl (Nat.le_of_ble_eq_true rfl) (kn_dec tX6_finders 1 rfl) ⟨(Nat.le_of_ble_eq_true rfl), (Nat.le_of_ble_eq_true rfl)⟩) (fun r1 u2 H locs h I => ?_)
  have I : kn_I D tc (kn_A _ s.heap.size) s.heap [(kState, ad_s, _)] _ _ := I
  refine kw_calli (wc := []) (wr := [(kState, ad_s, _)]) I hA [] [0] rfl rfl (by decide) (by decide) (kn_runS (As := [.int _]) S0 hK hZ hA I ((ctJ6_bitCount_0f7a4 h).met _) (kn_cwS 1 hts q3_203 q3_204 q1_17 q3_205 rfl rfl (by decide +kernel) ⟨(Nat.le_of_ble_eq_true rfl), (Nat.le_of_ble_eq_true rfl)⟩) [] rfl (by decide) rfl hl.1 rfl (Nat.le_of_ble_eq_true rfl) (kn_dec tX6_finders 2 rfl) ⟨(Nat.le_of_ble_eq_true rfl), (Nat.le_of_ble_eq_true rfl)⟩) (fun r3 u4 H locs h I => ?_)
  have I : kn_I D tc (kn_A _ s.heap.size) s.heap [(kState, ad_s, _)] _ _ := I
  exact kw_iret hx hb hr hlocks I () rfl h (kn_dec tX6_finders 3 rfl)

/-! X2_failAt -/
abbrev rmX2_failAt : Room := { frames := 0, cells := 0, slots := 0, locals := 0 }
def PX2_failAt  (v_r : OV) (v_t : OV) (a1 : Int32) (a2 : Int32) (post : OV → Prop) : Prop := ((¬ (v_r.1 3) = ((0 : Int32)) → post v_r) ∧ ((v_r.1 3) = ((0 : Int32)) → (∀ x2 : Int32, x2 = ((((1 : Int32)) + (((8 : Int32)) * a1)) + a2) → (∀ v_r3 : OV, v_r3 = si v_r 3 x2 → post v_r3))))
set_option maxRecDepth 100000 in
set_option maxHeartbeats 1000000 in
theorem ctX2_failAt {l : Launch} {D : va_G} {tc : Nat → ClassId} {Z : (Nat → Nat) × (Nat → Nat)}  {ad_r : Nat → Nat} {ad_t : Nat → Nat} {v_r : OV} {v_t : OV} {a1 : Int32} {a2 : Int32} (e_r_0 : ad_r (0 + 1) = ad_t (0 + 1))   {post : OV → Prop} (h : PX2_failAt  v_r v_t a1 a2 post) : CTv l D tc Z yX2_failAt (Cond.code yX2_failAt cX2_failAt 3 none :: kn_all) rmX2_failAt 0 0 [.ref (ad_r 0), .int a1, .int a2] [(kReader, ad_r, v_r), (kTin, ad_t, v_t)] (fun (u : OV) => [(kReader, ad_r, u), (kTin, ad_t, v_t)]) (fun (u : OV) => post u) := by
  refine kn_ofv (cc := cX2_failAt) (nL := 3) (ret := none) (lv := [(0, .ref (ad_r 0)), (1, .int a1), (2, .int a2)]) (by decide) (Nat.le_of_ble_eq_true rfl) rfl (fun p e s m below meth c ls X I hl _ => ?_)
  obtain ⟨S0, hr, hlocks, hK, hZ, hA⟩ := id X
  obtain ⟨hx, hb, hml, hown, hts⟩ := id S0
  unfold PX2_failAt at h
  refine lv_aload_n hx hb (kn_dec tX2_failAt 0 rfl) rfl (lv_at hl 0 rfl) ?_
  refine kw_geti hx hb hts inX2 hown hK I 0 rfl rfl 3 (by decide) rfl (hts _ q1_43) (kn_dec tX2_failAt 1 rfl) ?_
  refine lv_if_ne (tgt := 19) hx hb (kn_dec tX2_failAt 2 rfl) (by decide) (fun c1 => ?_) (fun c1 => ?_)
  · have h := h.1 c1
    exact kw_vret hx hb hr hlocks I _ rfl h (kn_dec tX2_failAt 12 rfl)
  · have h := h.2 c1
    refine lv_aload_n hx hb (kn_dec tX2_failAt 3 rfl) rfl (lv_at hl 0 rfl) ?_
    refine lv_iconst (v := (1)) hx hb (kn_dec tX2_failAt 4 rfl) (by decide) ?_
    refine lv_bipush (v := (8)) hx hb (kn_dec tX2_failAt 5 rfl) (by decide) ?_
    refine lv_iload_n hx hb (kn_dec tX2_failAt 6 rfl) rfl (lv_at hl 1 rfl) ?_
    refine lv_imul hx hb (kn_dec tX2_failAt 7 rfl) ?_
    refine lv_iadd hx hb (kn_dec tX2_failAt 8 rfl) ?_
    refine lv_iload_n hx hb (kn_dec tX2_failAt 9 rfl) rfl (lv_at hl 2 rfl) ?_
    refine lv_iadd hx hb (kn_dec tX2_failAt 10 rfl) ?_
    refine lv_topi (fun x2 ex2 => ?_)
    have h := h x2 ex2
    refine kw_puti hx hb hts inX2 tyX2 tyX2_ok nmX2 hown hK I 0 rfl rfl 3 (by decide) rfl (hts _ q1_43) rfl rfl rfl (kn_dec tX2_failAt 11 rfl) (fun v_r3 ev_r3 H locs I => ?_)
    have h := h v_r3 ev_r3
    have I : kn_I D tc (kn_A _ s.heap.size) s.heap [(kReader, ad_r, _), (kTin, ad_t, _)] _ _ := I
    exact kw_vret hx hb hr hlocks I _ rfl h (kn_dec tX2_failAt 12 rfl)

/-! X2_next -/
abbrev rmX2_next : Room := { frames := 0, cells := 0, slots := 0, locals := 0 }
def PX2_next_b38 (v_t : OV)  (post : Int32 → OV → Prop) (v_r : OV) : Prop := (((v_r.1 1) ≤ (v_r.1 2) → post ((-1 : Int32)) v_r) ∧ (¬ (v_r.1 1) ≤ (v_r.1 2) → (vp_in (v_r.1 2) 400 ∧ post (v_t.2.1 0 (v_r.1 2).toNatClampNeg) v_r)))
set_option maxRecDepth 100000 in
set_option maxHeartbeats 1000000 in
theorem wX2_next_b38 {v_t : OV}  {post : Int32 → OV → Prop} {ad_r : Nat → Nat} {ad_t : Nat → Nat} (X : kn_X p s m args meth c cX2_next 1 (some .int) RX2 kn_all D tc Z (kn_A w0 s.heap.size)) (e_r_0 : ad_r (0 + 1) = ad_t (0 + 1))   : ∀ (H : Heap) (locs : List Loc) (ls : Array Slot) (v_r : OV), kn_I D tc (kn_A w0 s.heap.size) s.heap [(kReader, ad_r, v_r), (kTin, ad_t, v_t)] H locs → lv_has ls 1 [(0, .ref (ad_r 0))] → PX2_next_b38 v_t post v_r → W p l e rmX2_next s m args below meth c H locs 0 0 (kn_Qi D tc w0 (fun (u : OV) => [(kReader, ad_r, u), (kTin, ad_t, v_t)]) (fun (r : Int32) (u : OV) => post r u) below args s 0 0) (F0 m 38 ls []) := by
  obtain ⟨S0, hr, hlocks, hK, hZ, hA⟩ := id X
  obtain ⟨hx, hb, hml, hown, hts⟩ := id S0
  intro H locs ls v_r I hl h
  unfold PX2_next_b38 at h
  refine lv_aload_n hx hb (kn_dec tX2_next 19 rfl) rfl (lv_at hl 0 rfl) ?_
  refine kw_geti hx hb hts inX2 hown hK I 0 rfl rfl 2 (by decide) rfl (hts _ q1_40) (kn_dec tX2_next 20 rfl) ?_
  refine lv_aload_n hx hb (kn_dec tX2_next 21 rfl) rfl (lv_at hl 0 rfl) ?_
  refine kw_geti hx hb hts inX2 hown hK I 0 rfl rfl 1 (by decide) rfl (hts _ q1_39) (kn_dec tX2_next 22 rfl) ?_
  refine lv_icmp_ge (tgt := 61) hx hb (kn_dec tX2_next 23 rfl) (by decide) (fun c1 => ?_) (fun c1 => ?_)
  · have h := h.1 c1
    refine lv_iconst (v := (-1)) hx hb (kn_dec tX2_next 30 rfl) (by decide) ?_
    exact kw_iret hx hb hr hlocks I _ rfl h (kn_dec tX2_next 31 rfl)
  · have h := h.2 c1
    refine lv_aload_n hx hb (kn_dec tX2_next 24 rfl) rfl (lv_at hl 0 rfl) ?_
    refine kw_getl hx hb hts inX2 hown hK I 0 rfl rfl 0 (by decide) rfl (hts _ q1_38) (kn_dec tX2_next 25 rfl) e_r_0 ?_
    refine lv_aload_n hx hb (kn_dec tX2_next 26 rfl) rfl (lv_at hl 0 rfl) ?_
    refine kw_geti hx hb hts inX2 hown hK I 0 rfl rfl 2 (by decide) rfl (hts _ q1_40) (kn_dec tX2_next 27 rfl) ?_
    obtain ⟨hs2, h⟩ := h
    refine kw_iald hx hb hK I 1 rfl 0 400 (List.mem_of_getElem? (i := 0) rfl) hs2 (kn_dec tX2_next 28 rfl) ?_
    refine lv_goto (tgt := 62) hx hb (kn_dec tX2_next 29 rfl) (by decide) ?_
    exact kw_iret hx hb hr hlocks I _ rfl h (kn_dec tX2_next 31 rfl)
def PX2_next_L0 (v_t : OV)  (post : Int32 → OV → Prop) : Nat → OV → Prop
  | 0, _ => False
  | n + 1, v_r => (((v_r.1 1) ≤ (v_r.1 2) → PX2_next_b38 v_t post v_r) ∧ (¬ (v_r.1 1) ≤ (v_r.1 2) → (vp_in (v_r.1 2) 400 ∧ ((¬ (v_t.2.1 0 (v_r.1 2).toNatClampNeg) = ((32 : Int32)) → PX2_next_b38 v_t post v_r) ∧ ((v_t.2.1 0 (v_r.1 2).toNatClampNeg) = ((32 : Int32)) → (∀ x4 : Int32, x4 = ((v_r.1 2) + ((1 : Int32))) → (∀ v_r5 : OV, v_r5 = si v_r 2 x4 → PX2_next_L0 v_t post n v_r5)))))))
set_option maxRecDepth 100000 in
set_option maxHeartbeats 1000000 in
theorem wX2_next_L0 {v_t : OV}  {post : Int32 → OV → Prop} {ad_r : Nat → Nat} {ad_t : Nat → Nat} (X : kn_X p s m args meth c cX2_next 1 (some .int) RX2 kn_all D tc Z (kn_A w0 s.heap.size)) (e_r_0 : ad_r (0 + 1) = ad_t (0 + 1))   : ∀ n : Nat, ∀ (H : Heap) (locs : List Loc) (ls : Array Slot) (v_r : OV), kn_I D tc (kn_A w0 s.heap.size) s.heap [(kReader, ad_r, v_r), (kTin, ad_t, v_t)] H locs → lv_has ls 1 [(0, .ref (ad_r 0))] → PX2_next_L0 v_t post n v_r → W p l e rmX2_next s m args below meth c H locs 0 0 (kn_Qi D tc w0 (fun (u : OV) => [(kReader, ad_r, u), (kTin, ad_t, v_t)]) (fun (r : Int32) (u : OV) => post r u) below args s 0 0) (F0 m 0 ls []) := by
  obtain ⟨S0, hr, hlocks, hK, hZ, hA⟩ := id X
  obtain ⟨hx, hb, hml, hown, hts⟩ := id S0
  intro n
  induction n with
  | zero =>
    intro H locs ls v_r I hl h
    unfold PX2_next_L0 at h
    exact h.elim
  | succ n ih =>
    intro H locs ls v_r I hl h
    unfold PX2_next_L0 at h
    refine lv_aload_n hx hb (kn_dec tX2_next 0 rfl) rfl (lv_at hl 0 rfl) ?_
    refine kw_geti hx hb hts inX2 hown hK I 0 rfl rfl 2 (by decide) rfl (hts _ q1_40) (kn_dec tX2_next 1 rfl) ?_
    refine lv_aload_n hx hb (kn_dec tX2_next 2 rfl) rfl (lv_at hl 0 rfl) ?_
    refine kw_geti hx hb hts inX2 hown hK I 0 rfl rfl 1 (by decide) rfl (hts _ q1_39) (kn_dec tX2_next 3 rfl) ?_
    refine lv_icmp_ge (tgt := 38) hx hb (kn_dec tX2_next 4 rfl) (by decide) (fun c1 => ?_) (fun c1 => ?_)
    · have h := h.1 c1
      exact wX2_next_b38 X e_r_0 _ _ _ _  I (lv_sub hl [0] rfl) h
    · have h := h.2 c1
      refine lv_aload_n hx hb (kn_dec tX2_next 5 rfl) rfl (lv_at hl 0 rfl) ?_
      refine kw_getl hx hb hts inX2 hown hK I 0 rfl rfl 0 (by decide) rfl (hts _ q1_38) (kn_dec tX2_next 6 rfl) e_r_0 ?_
      refine lv_aload_n hx hb (kn_dec tX2_next 7 rfl) rfl (lv_at hl 0 rfl) ?_
      refine kw_geti hx hb hts inX2 hown hK I 0 rfl rfl 2 (by decide) rfl (hts _ q1_40) (kn_dec tX2_next 8 rfl) ?_
      obtain ⟨hs2, h⟩ := h
      refine kw_iald hx hb hK I 1 rfl 0 400 (List.mem_of_getElem? (i := 0) rfl) hs2 (kn_dec tX2_next 9 rfl) ?_
      refine lv_bipush (v := (32)) hx hb (kn_dec tX2_next 10 rfl) (by decide) ?_
      refine lv_icmp_ne (tgt := 38) hx hb (kn_dec tX2_next 11 rfl) (by decide) (fun c3 => ?_) (fun c3 => ?_)
      · have h := h.1 c3
        exact wX2_next_b38 X e_r_0 _ _ _ _  I (lv_sub hl [0] rfl) h
      · have h := h.2 c3
        refine lv_aload_n hx hb (kn_dec tX2_next 12 rfl) rfl (lv_at hl 0 rfl) ?_
        refine lv_dup hx hb (kn_dec tX2_next 13 rfl) rfl ?_
        refine kw_geti hx hb hts inX2 hown hK I 0 rfl rfl 2 (by decide) rfl (hts _ q1_40) (kn_dec tX2_next 14 rfl) ?_
        refine lv_iconst (v := (1)) hx hb (kn_dec tX2_next 15 rfl) (by decide) ?_
        refine lv_iadd hx hb (kn_dec tX2_next 16 rfl) ?_
        refine lv_topi (fun x4 ex4 => ?_)
        have h := h x4 ex4
        refine kw_puti hx hb hts inX2 tyX2 tyX2_ok nmX2 hown hK I 0 rfl rfl 2 (by decide) rfl (hts _ q1_40) rfl rfl rfl (kn_dec tX2_next 17 rfl) (fun v_r5 ev_r5 H locs I => ?_)
        have h := h v_r5 ev_r5
        have I : kn_I D tc (kn_A w0 s.heap.size) s.heap [(kReader, ad_r, _), (kTin, ad_t, _)] _ _ := I
        refine lv_goto (tgt := 0) hx hb (kn_dec tX2_next 18 rfl) (by decide) ?_
        exact ih _ _ _ _  I (lv_sub hl [0] rfl) h
def PX2_next  (v_r : OV) (v_t : OV) (post : Int32 → OV → Prop) : Prop := (∃ n1 : Nat, PX2_next_L0 v_t post n1 v_r)
set_option maxRecDepth 100000 in
set_option maxHeartbeats 1000000 in
theorem ctX2_next {l : Launch} {D : va_G} {tc : Nat → ClassId} {Z : (Nat → Nat) × (Nat → Nat)}  {ad_r : Nat → Nat} {ad_t : Nat → Nat} {v_r : OV} {v_t : OV} (e_r_0 : ad_r (0 + 1) = ad_t (0 + 1))   {post : Int32 → OV → Prop} (h : PX2_next  v_r v_t post) : CTi l D tc Z yX2_next (Cond.code yX2_next cX2_next 1 (some .int) :: kn_all) rmX2_next 0 0 [.ref (ad_r 0)] [(kReader, ad_r, v_r), (kTin, ad_t, v_t)] (fun (u : OV) => [(kReader, ad_r, u), (kTin, ad_t, v_t)]) (fun (r : Int32) (u : OV) => post r u) := by
  refine kn_ofi (cc := cX2_next) (nL := 1) (ret := (some .int)) (lv := [(0, .ref (ad_r 0))]) (by decide) (Nat.le_of_ble_eq_true rfl) rfl (fun p e s m below meth c ls X I hl _ => ?_)
  obtain ⟨S0, hr, hlocks, hK, hZ, hA⟩ := id X
  obtain ⟨hx, hb, hml, hown, hts⟩ := id S0
  unfold PX2_next at h
  obtain ⟨n1, h⟩ := h
  exact wX2_next_L0 X e_r_0 n1 _ _ _ _  I (lv_sub hl [0] rfl) h

/-! X2_behind -/
abbrev rmX2_behind : Room := { frames := 0, cells := 0, slots := 0, locals := 0 }
def PX2_behind  (v_r : OV) (v_t : OV) (post : Int32 → Prop) : Prop := (((v_r.1 1) ≤ ((v_r.1 2) + ((1 : Int32))) → post ((-1 : Int32))) ∧ (¬ (v_r.1 1) ≤ ((v_r.1 2) + ((1 : Int32))) → (vp_in ((v_r.1 2) + ((1 : Int32))) 400 ∧ post (v_t.2.1 0 ((v_r.1 2) + ((1 : Int32))).toNatClampNeg))))
set_option maxRecDepth 100000 in
set_option maxHeartbeats 1000000 in
theorem ctX2_behind {l : Launch} {D : va_G} {tc : Nat → ClassId} {Z : (Nat → Nat) × (Nat → Nat)}  {ad_r : Nat → Nat} {ad_t : Nat → Nat} {v_r : OV} {v_t : OV} (e_r_0 : ad_r (0 + 1) = ad_t (0 + 1))   {post : Int32 → Prop} (h : PX2_behind  v_r v_t post) : CTi l D tc Z yX2_behind (Cond.code yX2_behind cX2_behind 1 (some .int) :: kn_all) rmX2_behind 0 0 [.ref (ad_r 0)] [(kReader, ad_r, v_r), (kTin, ad_t, v_t)] (fun (u : Unit) => [(kReader, ad_r, v_r), (kTin, ad_t, v_t)]) (fun (r : Int32) (u : Unit) => post r) := by
  refine kn_ofi (cc := cX2_behind) (nL := 1) (ret := (some .int)) (lv := [(0, .ref (ad_r 0))]) (by decide) (Nat.le_of_ble_eq_true rfl) rfl (fun p e s m below meth c ls X I hl _ => ?_)
  obtain ⟨S0, hr, hlocks, hK, hZ, hA⟩ := id X
  obtain ⟨hx, hb, hml, hown, hts⟩ := id S0
  unfold PX2_behind at h
  refine lv_aload_n hx hb (kn_dec tX2_behind 0 rfl) rfl (lv_at hl 0 rfl) ?_
  refine kw_geti hx hb hts inX2 hown hK I 0 rfl rfl 2 (by decide) rfl (hts _ q1_40) (kn_dec tX2_behind 1 rfl) ?_
  refine lv_iconst (v := (1)) hx hb (kn_dec tX2_behind 2 rfl) (by decide) ?_
  refine lv_iadd hx hb (kn_dec tX2_behind 3 rfl) ?_
  refine lv_aload_n hx hb (kn_dec tX2_behind 4 rfl) rfl (lv_at hl 0 rfl) ?_
  refine kw_geti hx hb hts inX2 hown hK I 0 rfl rfl 1 (by decide) rfl (hts _ q1_39) (kn_dec tX2_behind 5 rfl) ?_
  refine lv_icmp_ge (tgt := 27) hx hb (kn_dec tX2_behind 6 rfl) (by decide) (fun c1 => ?_) (fun c1 => ?_)
  · have h := h.1 c1
    refine lv_iconst (v := (-1)) hx hb (kn_dec tX2_behind 15 rfl) (by decide) ?_
    exact kw_iret hx hb hr hlocks I () rfl h (kn_dec tX2_behind 16 rfl)
  · have h := h.2 c1
    refine lv_aload_n hx hb (kn_dec tX2_behind 7 rfl) rfl (lv_at hl 0 rfl) ?_
    refine kw_getl hx hb hts inX2 hown hK I 0 rfl rfl 0 (by decide) rfl (hts _ q1_38) (kn_dec tX2_behind 8 rfl) e_r_0 ?_
    refine lv_aload_n hx hb (kn_dec tX2_behind 9 rfl) rfl (lv_at hl 0 rfl) ?_
    refine kw_geti hx hb hts inX2 hown hK I 0 rfl rfl 2 (by decide) rfl (hts _ q1_40) (kn_dec tX2_behind 10 rfl) ?_
    refine lv_iconst (v := (1)) hx hb (kn_dec tX2_behind 11 rfl) (by decide) ?_
    refine lv_iadd hx hb (kn_dec tX2_behind 12 rfl) ?_
    obtain ⟨hs2, h⟩ := h
    refine kw_iald hx hb hK I 1 rfl 0 400 (List.mem_of_getElem? (i := 0) rfl) hs2 (kn_dec tX2_behind 13 rfl) ?_
    refine lv_goto (tgt := 28) hx hb (kn_dec tX2_behind 14 rfl) (by decide) ?_
    exact kw_iret hx hb hr hlocks I () rfl h (kn_dec tX2_behind 16 rfl)

/-! X2_pass -/
abbrev rmX2_pass : Room := { frames := 1, cells := 0, slots := 0, locals := 64 }
def PX2_pass  (v_r : OV) (v_t : OV) (a1 : Int32) (post : OV → Prop) : Prop := (∀ x1 : Int32, x1 = (if ((v_r.1 2) + a1) < (v_r.1 1) then ((v_r.1 2) + a1) else (v_r.1 1)) → (∀ v_r2 : OV, v_r2 = si v_r 2 x1 → post v_r2))
set_option maxRecDepth 100000 in
set_option maxHeartbeats 1000000 in
theorem ctX2_pass {l : Launch} {D : va_G} {tc : Nat → ClassId} {Z : (Nat → Nat) × (Nat → Nat)}  {ad_r : Nat → Nat} {ad_t : Nat → Nat} {v_r : OV} {v_t : OV} {a1 : Int32} (e_r_0 : ad_r (0 + 1) = ad_t (0 + 1))   {post : OV → Prop} (h : PX2_pass  v_r v_t a1 post) : CTv l D tc Z yX2_pass (Cond.code yX2_pass cX2_pass 2 none :: kn_all) rmX2_pass 0 0 [.ref (ad_r 0), .int a1] [(kReader, ad_r, v_r), (kTin, ad_t, v_t)] (fun (u : OV) => [(kReader, ad_r, u), (kTin, ad_t, v_t)]) (fun (u : OV) => post u) := by
  refine kn_ofv (cc := cX2_pass) (nL := 2) (ret := none) (lv := [(0, .ref (ad_r 0)), (1, .int a1)]) (by decide) (Nat.le_of_ble_eq_true rfl) rfl (fun p e s m below meth c ls X I hl _ => ?_)
  obtain ⟨S0, hr, hlocks, hK, hZ, hA⟩ := id X
  obtain ⟨hx, hb, hml, hown, hts⟩ := id S0
  unfold PX2_pass at h
  refine lv_aload_n hx hb (kn_dec tX2_pass 0 rfl) rfl (lv_at hl 0 rfl) ?_
  refine lv_aload_n hx hb (kn_dec tX2_pass 1 rfl) rfl (lv_at hl 0 rfl) ?_
  refine kw_geti hx hb hts inX2 hown hK I 0 rfl rfl 1 (by decide) rfl (hts _ q1_39) (kn_dec tX2_pass 2 rfl) ?_
  refine lv_aload_n hx hb (kn_dec tX2_pass 3 rfl) rfl (lv_at hl 0 rfl) ?_
  refine kw_geti hx hb hts inX2 hown hK I 0 rfl rfl 2 (by decide) rfl (hts _ q1_40) (kn_dec tX2_pass 4 rfl) ?_
  refine lv_iload_n hx hb (kn_dec tX2_pass 5 rfl) rfl (lv_at hl 1 rfl) ?_
  refine lv_iadd hx hb (kn_dec tX2_pass 6 rfl) ?_
  refine va_mmin hx hb (hml.trans hl.1.symm) hown (hts _ q2_162) (hts _ q2_163) (hts _ q1_11) (hts _ q2_164) (Nat.le_of_ble_eq_true rfl) (Nat.le_of_ble_eq_true rfl) (Nat.le_of_ble_eq_true rfl) (Nat.le_of_ble_eq_true rfl) (kn_dec tX2_pass 7 rfl) ?_
  refine lv_topi (fun x1 ex1 => ?_)
  have h := h x1 ex1
  refine kw_puti hx hb hts inX2 tyX2 tyX2_ok nmX2 hown hK I 0 rfl rfl 2 (by decide) rfl (hts _ q1_40) rfl rfl rfl (kn_dec tX2_pass 8 rfl) (fun v_r2 ev_r2 H locs I => ?_)
  have h := h v_r2 ev_r2
  have I : kn_I D tc (kn_A _ s.heap.size) s.heap [(kReader, ad_r, _), (kTin, ad_t, _)] _ _ := I
  exact kw_vret hx hb hr hlocks I _ rfl h (kn_dec tX2_pass 9 rfl)

/-! X2_take -/
abbrev rmX2_take : Room := { frames := 2, cells := 0, slots := 0, locals := 85 }
def PX2_take  (v_r : OV) (v_t : OV) (a1 : Int32) (post : OV → Prop) : Prop := (PX2_next v_r v_t (fun r2 v_r1 => ((¬ r2 = a1 → (PX2_failAt v_r1 v_t (v_r1.1 2) ((0 : Int32)) (fun v_r5 => post v_r5))) ∧ (r2 = a1 → (PX2_pass v_r1 v_t ((1 : Int32)) (fun v_r7 => post v_r7))))))
set_option maxRecDepth 100000 in
set_option maxHeartbeats 1000000 in
theorem ctX2_take {l : Launch} {D : va_G} {tc : Nat → ClassId} {Z : (Nat → Nat) × (Nat → Nat)}  {ad_r : Nat → Nat} {ad_t : Nat → Nat} {v_r : OV} {v_t : OV} {a1 : Int32} (e_r_0 : ad_r (0 + 1) = ad_t (0 + 1))   {post : OV → Prop} (h : PX2_take  v_r v_t a1 post) : CTv l D tc Z yX2_take (Cond.code yX2_take cX2_take 2 none :: kn_all) rmX2_take 0 0 [.ref (ad_r 0), .int a1] [(kReader, ad_r, v_r), (kTin, ad_t, v_t)] (fun (u : OV) => [(kReader, ad_r, u), (kTin, ad_t, v_t)]) (fun (u : OV) => post u) := by
  refine kn_ofv (cc := cX2_take) (nL := 2) (ret := none) (lv := [(0, .ref (ad_r 0)), (1, .int a1)]) (by decide) (Nat.le_of_ble_eq_true rfl) rfl (fun p e s m below meth c ls X I hl _ => ?_)
  obtain ⟨S0, hr, hlocks, hK, hZ, hA⟩ := id X
  obtain ⟨hx, hb, hml, hown, hts⟩ := id S0
  unfold PX2_take at h
  refine lv_aload_n hx hb (kn_dec tX2_take 0 rfl) rfl (lv_at hl 0 rfl) ?_
  refine kw_calli (wc := [(kReader, ad_r, _), (kTin, ad_t, _)]) (wr := []) I hA [0, 1] [] rfl rfl (by decide) (by decide) (kn_runV (As := []) S0 hK hZ hA I ((ctX2_next e_r_0 h).met _) (kn_cwV 0 hts q2_174 q2_175 q2_176 q1_3 q2_177 rfl rfl (by decide +kernel) ⟨(Nat.le_of_ble_eq_true rfl), (Nat.le_of_ble_eq_true rfl)⟩) [0, 1] rfl (by decide) 0 rfl rfl rfl rfl hl.1 rfl (Nat.le_of_ble_eq_true rfl) (kn_dec tX2_take 1 rfl) ⟨(Nat.le_of_ble_eq_true rfl), (Nat.le_of_ble_eq_true rfl)⟩) (fun r2 u3 H locs h I => ?_)
  have I : kn_I D tc (kn_A _ s.heap.size) s.heap [(kReader, ad_r, _), (kTin, ad_t, _)] _ _ := I
  refine lv_iload_n hx hb (kn_dec tX2_take 2 rfl) rfl (lv_at hl 1 rfl) ?_
  refine lv_icmp_ne (tgt := 16) hx hb (kn_dec tX2_take 3 rfl) (by decide) (fun c4 => ?_) (fun c4 => ?_)
  · have h := h.1 c4
    refine lv_aload_n hx hb (kn_dec tX2_take 8 rfl) rfl (lv_at hl 0 rfl) ?_
    refine lv_aload_n hx hb (kn_dec tX2_take 9 rfl) rfl (lv_at hl 0 rfl) ?_
    refine kw_geti hx hb hts inX2 hown hK I 0 rfl rfl 2 (by decide) rfl (hts _ q1_40) (kn_dec tX2_take 10 rfl) ?_
    refine lv_iconst (v := (0)) hx hb (kn_dec tX2_take 11 rfl) (by decide) ?_
    refine kw_callv (wc := [(kReader, ad_r, _), (kTin, ad_t, _)]) (wr := []) I hA [0, 1] [] rfl rfl (by decide) (by decide) (kn_runV (As := [.int _, .int _]) S0 hK hZ hA I ((ctX2_failAt e_r_0 h).met _) (kn_cwV 2 hts q3_17 q2_235 q2_236 q1_3 q2_237 rfl rfl (by decide +kernel) ⟨(Nat.le_of_ble_eq_true rfl), (Nat.le_of_ble_eq_true rfl)⟩) [0, 1] rfl (by decide) 0 rfl rfl rfl rfl hl.1 rfl (Nat.le_of_ble_eq_true rfl) (kn_dec tX2_take 12 rfl) ⟨(Nat.le_of_ble_eq_true rfl), (Nat.le_of_ble_eq_true rfl)⟩) (fun u6 H locs h I => ?_)
    have I : kn_I D tc (kn_A _ s.heap.size) s.heap [(kReader, ad_r, _), (kTin, ad_t, _)] _ _ := I
    exact kw_vret hx hb hr hlocks I _ rfl h (kn_dec tX2_take 13 rfl)
  · have h := h.2 c4
    refine lv_aload_n hx hb (kn_dec tX2_take 4 rfl) rfl (lv_at hl 0 rfl) ?_
    refine lv_iconst (v := (1)) hx hb (kn_dec tX2_take 5 rfl) (by decide) ?_
    refine kw_callv (wc := [(kReader, ad_r, _), (kTin, ad_t, _)]) (wr := []) I hA [0, 1] [] rfl rfl (by decide) (by decide) (kn_runV (As := [.int _]) S0 hK hZ hA I ((ctX2_pass e_r_0 h).met _) (kn_cwV 1 hts q3_30 q3_3 q3_4 q1_3 q3_5 rfl rfl (by decide +kernel) ⟨(Nat.le_of_ble_eq_true rfl), (Nat.le_of_ble_eq_true rfl)⟩) [0, 1] rfl (by decide) 0 rfl rfl rfl rfl hl.1 rfl (Nat.le_of_ble_eq_true rfl) (kn_dec tX2_take 6 rfl) ⟨(Nat.le_of_ble_eq_true rfl), (Nat.le_of_ble_eq_true rfl)⟩) (fun u8 H locs h I => ?_)
    have I : kn_I D tc (kn_A _ s.heap.size) s.heap [(kReader, ad_r, _), (kTin, ad_t, _)] _ _ := I
    refine lv_goto (tgt := 25) hx hb (kn_dec tX2_take 7 rfl) (by decide) ?_
    exact kw_vret hx hb hr hlocks I _ rfl h (kn_dec tX2_take 13 rfl)

/-! X2_hasNextClause -/
abbrev rmX2_hasNextClause : Room := { frames := 3, cells := 0, slots := 0, locals := 106 }
def PX2_hasNextClause  (v_r : OV) (v_t : OV) (post : Int32 → OV → Prop) : Prop := ((¬ (v_r.1 3) = ((0 : Int32)) → post ((0 : Int32)) v_r) ∧ ((v_r.1 3) = ((0 : Int32)) → (PX2_next v_r v_t (fun r3 v_r2 => ((¬ r3 = ((-1 : Int32)) → (PX2_take v_r2 v_t ((59 : Int32)) (fun v_r6 => ((¬ (v_r6.1 3) = ((0 : Int32)) → post ((0 : Int32)) v_r6) ∧ ((v_r6.1 3) = ((0 : Int32)) → post ((1 : Int32)) v_r6))))) ∧ (r3 = ((-1 : Int32)) → post ((0 : Int32)) v_r2))))))
set_option maxRecDepth 100000 in
set_option maxHeartbeats 1000000 in
theorem ctX2_hasNextClause {l : Launch} {D : va_G} {tc : Nat → ClassId} {Z : (Nat → Nat) × (Nat → Nat)}  {ad_r : Nat → Nat} {ad_t : Nat → Nat} {v_r : OV} {v_t : OV} (e_r_0 : ad_r (0 + 1) = ad_t (0 + 1))   {post : Int32 → OV → Prop} (h : PX2_hasNextClause  v_r v_t post) : CTi l D tc Z yX2_hasNextClause (Cond.code yX2_hasNextClause cX2_hasNextClause 1 (some .boolean) :: kn_all) rmX2_hasNextClause 0 0 [.ref (ad_r 0)] [(kReader, ad_r, v_r), (kTin, ad_t, v_t)] (fun (u : OV) => [(kReader, ad_r, u), (kTin, ad_t, v_t)]) (fun (r : Int32) (u : OV) => (r = 0 ∨ r = 1) ∧ post r u) := by
  refine kn_ofi (cc := cX2_hasNextClause) (nL := 1) (ret := (some .boolean)) (lv := [(0, .ref (ad_r 0))]) (by decide) (Nat.le_of_ble_eq_true rfl) rfl (fun p e s m below meth c ls X I hl _ => ?_)
  obtain ⟨S0, hr, hlocks, hK, hZ, hA⟩ := id X
  obtain ⟨hx, hb, hml, hown, hts⟩ := id S0
  unfold PX2_hasNextClause at h
  refine lv_aload_n hx hb (kn_dec tX2_hasNextClause 0 rfl) rfl (lv_at hl 0 rfl) ?_
  refine kw_geti hx hb hts inX2 hown hK I 0 rfl rfl 3 (by decide) rfl (hts _ q1_43) (kn_dec tX2_hasNextClause 1 rfl) ?_
  refine lv_if_ne (tgt := 15) hx hb (kn_dec tX2_hasNextClause 2 rfl) (by decide) (fun c1 => ?_) (fun c1 => ?_)
  · have h := h.1 c1
    refine lv_iconst (v := (0)) hx hb (kn_dec tX2_hasNextClause 7 rfl) (by decide) ?_
    exact kw_zret hx hb hr (kn_nz (Or.inl rfl)) hlocks I _ rfl ⟨(Or.inl rfl), h⟩ (kn_dec tX2_hasNextClause 8 rfl)
  · have h := h.2 c1
    refine lv_aload_n hx hb (kn_dec tX2_hasNextClause 3 rfl) rfl (lv_at hl 0 rfl) ?_
    refine kw_calli (wc := [(kReader, ad_r, _), (kTin, ad_t, _)]) (wr := []) I hA [0, 1] [] rfl rfl (by decide) (by decide) (kn_runV (As := []) S0 hK hZ hA I ((ctX2_next e_r_0 h).met _) (kn_cwV 0 hts q2_174 q2_175 q2_176 q1_3 q2_177 rfl rfl (by decide +kernel) ⟨(Nat.le_of_ble_eq_true rfl), (Nat.le_of_ble_eq_true rfl)⟩) [0, 1] rfl (by decide) 0 rfl rfl rfl rfl hl.1 rfl (Nat.le_of_ble_eq_true rfl) (kn_dec tX2_hasNextClause 4 rfl) ⟨(Nat.le_of_ble_eq_true rfl), (Nat.le_of_ble_eq_true rfl)⟩) (fun r3 u4 H locs h I => ?_)
    have I : kn_I D tc (kn_A _ s.heap.size) s.heap [(kReader, ad_r, _), (kTin, ad_t, _)] _ _ := I
    refine lv_iconst (v := (-1)) hx hb (kn_dec tX2_hasNextClause 5 rfl) (by decide) ?_
    refine lv_icmp_ne (tgt := 17) hx hb (kn_dec tX2_hasNextClause 6 rfl) (by decide) (fun c5 => ?_) (fun c5 => ?_)
    · have h := h.1 c5
      refine lv_aload_n hx hb (kn_dec tX2_hasNextClause 9 rfl) rfl (lv_at hl 0 rfl) ?_
      refine lv_bipush (v := (59)) hx hb (kn_dec tX2_hasNextClause 10 rfl) (by decide) ?_
      refine kw_callv (wc := [(kReader, ad_r, _), (kTin, ad_t, _)]) (wr := []) I hA [0, 1] [] rfl rfl (by decide) (by decide) (kn_runV (As := [.int _]) S0 hK hZ hA I ((ctX2_take e_r_0 h).met _) (kn_cwV 1 hts q3_26 q3_27 q3_28 q1_3 q3_29 rfl rfl (by decide +kernel) ⟨(Nat.le_of_ble_eq_true rfl), (Nat.le_of_ble_eq_true rfl)⟩) [0, 1] rfl (by decide) 0 rfl rfl rfl rfl hl.1 rfl (Nat.le_of_ble_eq_true rfl) (kn_dec tX2_hasNextClause 11 rfl) ⟨(Nat.le_of_ble_eq_true rfl), (Nat.le_of_ble_eq_true rfl)⟩) (fun u7 H locs h I => ?_)
      have I : kn_I D tc (kn_A _ s.heap.size) s.heap [(kReader, ad_r, _), (kTin, ad_t, _)] _ _ := I
      refine lv_aload_n hx hb (kn_dec tX2_hasNextClause 12 rfl) rfl (lv_at hl 0 rfl) ?_
      refine kw_geti hx hb hts inX2 hown hK I 0 rfl rfl 3 (by decide) rfl (hts _ q1_43) (kn_dec tX2_hasNextClause 13 rfl) ?_
      refine lv_if_ne (tgt := 34) hx hb (kn_dec tX2_hasNextClause 14 rfl) (by decide) (fun c8 => ?_) (fun c8 => ?_)
      · have h := h.1 c8
        refine lv_iconst (v := (0)) hx hb (kn_dec tX2_hasNextClause 17 rfl) (by decide) ?_
        exact kw_zret hx hb hr (kn_nz (Or.inl rfl)) hlocks I _ rfl ⟨(Or.inl rfl), h⟩ (kn_dec tX2_hasNextClause 18 rfl)
      · have h := h.2 c8
        refine lv_iconst (v := (1)) hx hb (kn_dec tX2_hasNextClause 15 rfl) (by decide) ?_
        refine lv_goto (tgt := 35) hx hb (kn_dec tX2_hasNextClause 16 rfl) (by decide) ?_
        exact kw_zret hx hb hr (kn_nz (Or.inr rfl)) hlocks I _ rfl ⟨(Or.inr rfl), h⟩ (kn_dec tX2_hasNextClause 18 rfl)
    · have h := h.2 c5
      refine lv_iconst (v := (0)) hx hb (kn_dec tX2_hasNextClause 7 rfl) (by decide) ?_
      exact kw_zret hx hb hr (kn_nz (Or.inl rfl)) hlocks I _ rfl ⟨(Or.inl rfl), h⟩ (kn_dec tX2_hasNextClause 8 rfl)

/-! X2_isDigit -/
abbrev rmX2_isDigit : Room := { frames := 0, cells := 0, slots := 0, locals := 0 }
def PX2_isDigit  (a0 : Int32) (post : Int32 → Prop) : Prop := ((a0 < ((48 : Int32)) → post ((0 : Int32))) ∧ (¬ a0 < ((48 : Int32)) → ((((57 : Int32)) < a0 → post ((0 : Int32))) ∧ (¬ ((57 : Int32)) < a0 → post ((1 : Int32))))))
set_option maxRecDepth 100000 in
set_option maxHeartbeats 1000000 in
theorem ctX2_isDigit {l : Launch} {D : va_G} {tc : Nat → ClassId} {Z : (Nat → Nat) × (Nat → Nat)}   {a0 : Int32}    {post : Int32 → Prop} (h : PX2_isDigit  a0 post) : CTi l D tc Z yX2_isDigit (Cond.code yX2_isDigit cX2_isDigit 1 (some .boolean) :: kn_all) rmX2_isDigit 0 0 [.int a0] [] (fun (u : Unit) => []) (fun (r : Int32) (u : Unit) => (r = 0 ∨ r = 1) ∧ post r) := by
  refine kn_ofi (cc := cX2_isDigit) (nL := 1) (ret := (some .boolean)) (lv := [(0, .int a0)]) (by decide) (Nat.le_of_ble_eq_true rfl) rfl (fun p e s m below meth c ls X I hl _ => ?_)
  obtain ⟨S0, hr, hlocks, hK, hZ, hA⟩ := id X
  obtain ⟨hx, hb, hml, hown, hts⟩ := id S0
  unfold PX2_isDigit at h
  refine lv_iload_n hx hb (kn_dec tX2_isDigit 0 rfl) rfl (lv_at hl 0 rfl) ?_
  refine lv_bipush (v := (48)) hx hb (kn_dec tX2_isDigit 1 rfl) (by decide) ?_
  refine lv_icmp_lt (tgt := 16) hx hb (kn_dec tX2_isDigit 2 rfl) (by decide) (fun c1 => ?_) (fun c1 => ?_)
  · have h := h.1 c1
    refine lv_iconst (v := (0)) hx hb (kn_dec tX2_isDigit 8 rfl) (by decide) ?_
    exact kw_zret hx hb hr (kn_nz (Or.inl rfl)) hlocks I () rfl ⟨(Or.inl rfl), h⟩ (kn_dec tX2_isDigit 9 rfl)
  · have h := h.2 c1
    refine lv_iload_n hx hb (kn_dec tX2_isDigit 3 rfl) rfl (lv_at hl 0 rfl) ?_
    refine lv_bipush (v := (57)) hx hb (kn_dec tX2_isDigit 4 rfl) (by decide) ?_
    refine lv_icmp_gt (tgt := 16) hx hb (kn_dec tX2_isDigit 5 rfl) (by decide) (fun c2 => ?_) (fun c2 => ?_)
    · have h := h.1 c2
      refine lv_iconst (v := (0)) hx hb (kn_dec tX2_isDigit 8 rfl) (by decide) ?_
      exact kw_zret hx hb hr (kn_nz (Or.inl rfl)) hlocks I () rfl ⟨(Or.inl rfl), h⟩ (kn_dec tX2_isDigit 9 rfl)
    · have h := h.2 c2
      refine lv_iconst (v := (1)) hx hb (kn_dec tX2_isDigit 6 rfl) (by decide) ?_
      refine lv_goto (tgt := 17) hx hb (kn_dec tX2_isDigit 7 rfl) (by decide) ?_
      exact kw_zret hx hb hr (kn_nz (Or.inr rfl)) hlocks I () rfl ⟨(Or.inr rfl), h⟩ (kn_dec tX2_isDigit 9 rfl)

/-! X2_number -/
abbrev rmX2_number : Room := { frames := 1, cells := 0, slots := 0, locals := 22 }
def PX2_number_b123 (v_t : OV)  (post : Int32 → OV → Prop) (y3 : Int32) (y4 : Int32) (v_r : OV) : Prop := (PX2_failAt v_r v_t y3 ((1 : Int32)) (fun v_r1 => post y4 v_r1))
set_option maxRecDepth 100000 in
set_option maxHeartbeats 1000000 in
theorem wX2_number_b123 {v_t : OV}  {post : Int32 → OV → Prop} {ad_r : Nat → Nat} {ad_t : Nat → Nat} (X : kn_X p s m args meth c cX2_number 5 (some .int) RX2 kn_all D tc Z (kn_A w0 s.heap.size)) (e_r_0 : ad_r (0 + 1) = ad_t (0 + 1))   : ∀ (H : Heap) (locs : List Loc) (ls : Array Slot) (y3 : Int32) (y4 : Int32) (v_r : OV), kn_I D tc (kn_A w0 s.heap.size) s.heap [(kReader, ad_r, v_r), (kTin, ad_t, v_t)] H locs → lv_has ls 5 [(0, .ref (ad_r 0)), (3, .int y3), (4, .int y4)] → PX2_number_b123 v_t post y3 y4 v_r → W p l e rmX2_number s m args below meth c H locs 0 0 (kn_Qi D tc w0 (fun (u : OV) => [(kReader, ad_r, u), (kTin, ad_t, v_t)]) (fun (r : Int32) (u : OV) => post r u) below args s 0 0) (F0 m 123 ls []) := by
  obtain ⟨S0, hr, hlocks, hK, hZ, hA⟩ := id X
  obtain ⟨hx, hb, hml, hown, hts⟩ := id S0
  intro H locs ls y3 y4 v_r I hl h
  unfold PX2_number_b123 at h
  refine lv_aload_n hx hb (kn_dec tX2_number 65 rfl) rfl (lv_at hl 0 rfl) ?_
  refine lv_iload_n hx hb (kn_dec tX2_number 66 rfl) rfl (lv_at hl 1 rfl) ?_
  refine lv_iconst (v := (1)) hx hb (kn_dec tX2_number 67 rfl) (by decide) ?_
  refine kw_callv (wc := [(kReader, ad_r, _), (kTin, ad_t, _)]) (wr := []) I hA [0, 1] [] rfl rfl (by decide) (by decide) (kn_runV (As := [.int _, .int _]) S0 hK hZ hA I ((ctX2_failAt e_r_0 h).met _) (kn_cwV 2 hts q3_17 q2_235 q2_236 q1_3 q2_237 rfl rfl (by decide +kernel) ⟨(Nat.le_of_ble_eq_true rfl), (Nat.le_of_ble_eq_true rfl)⟩) [0, 1] rfl (by decide) 0 rfl rfl rfl rfl hl.1 rfl (Nat.le_of_ble_eq_true rfl) (kn_dec tX2_number 68 rfl) ⟨(Nat.le_of_ble_eq_true rfl), (Nat.le_of_ble_eq_true rfl)⟩) (fun u2 H locs h I => ?_)
  have I : kn_I D tc (kn_A w0 s.heap.size) s.heap [(kReader, ad_r, _), (kTin, ad_t, _)] _ _ := I
  refine lv_iload hx hb (kn_dec tX2_number 69 rfl) (lv_at hl 2 rfl) ?_
  exact kw_iret hx hb hr hlocks I _ rfl h (kn_dec tX2_number 70 rfl)
def PX2_number_b101 (v_t : OV)  (post : Int32 → OV → Prop) (y1 : Int32) (y2 : Int32) (y3 : Int32) (y4 : Int32) (v_r : OV) : Prop := ((((5 : Int32)) < ((v_r.1 2) - y3) → PX2_number_b123 v_t post y3 y4 v_r) ∧ (¬ ((5 : Int32)) < ((v_r.1 2) - y3) → ((y4 < y1 → PX2_number_b123 v_t post y3 y4 v_r) ∧ (¬ y4 < y1 → ((y4 ≤ y2 → post y4 v_r) ∧ (¬ y4 ≤ y2 → PX2_number_b123 v_t post y3 y4 v_r))))))
set_option maxRecDepth 100000 in
set_option maxHeartbeats 1000000 in
theorem wX2_number_b101 {v_t : OV}  {post : Int32 → OV → Prop} {ad_r : Nat → Nat} {ad_t : Nat → Nat} (X : kn_X p s m args meth c cX2_number 5 (some .int) RX2 kn_all D tc Z (kn_A w0 s.heap.size)) (e_r_0 : ad_r (0 + 1) = ad_t (0 + 1))   : ∀ (H : Heap) (locs : List Loc) (ls : Array Slot) (y1 : Int32) (y2 : Int32) (y3 : Int32) (y4 : Int32) (v_r : OV), kn_I D tc (kn_A w0 s.heap.size) s.heap [(kReader, ad_r, v_r), (kTin, ad_t, v_t)] H locs → lv_has ls 5 [(0, .ref (ad_r 0)), (1, .int y1), (2, .int y2), (3, .int y3), (4, .int y4)] → PX2_number_b101 v_t post y1 y2 y3 y4 v_r → W p l e rmX2_number s m args below meth c H locs 0 0 (kn_Qi D tc w0 (fun (u : OV) => [(kReader, ad_r, u), (kTin, ad_t, v_t)]) (fun (r : Int32) (u : OV) => post r u) below args s 0 0) (F0 m 101 ls []) := by
  obtain ⟨S0, hr, hlocks, hK, hZ, hA⟩ := id X
  obtain ⟨hx, hb, hml, hown, hts⟩ := id S0
  intro H locs ls y1 y2 y3 y4 v_r I hl h
  unfold PX2_number_b101 at h
  refine lv_aload_n hx hb (kn_dec tX2_number 53 rfl) rfl (lv_at hl 0 rfl) ?_
  refine kw_geti hx hb hts inX2 hown hK I 0 rfl rfl 2 (by decide) rfl (hts _ q1_40) (kn_dec tX2_number 54 rfl) ?_
  refine lv_iload_n hx hb (kn_dec tX2_number 55 rfl) rfl (lv_at hl 3 rfl) ?_
  refine lv_isub hx hb (kn_dec tX2_number 56 rfl) ?_
  refine lv_iconst (v := (5)) hx hb (kn_dec tX2_number 57 rfl) (by decide) ?_
  refine lv_icmp_gt (tgt := 123) hx hb (kn_dec tX2_number 58 rfl) (by decide) (fun c1 => ?_) (fun c1 => ?_)
  · have h := h.1 c1
    exact wX2_number_b123 X e_r_0 _ _ _ _ _ _  I (lv_sub hl [0, 3, 4] rfl) h
  · have h := h.2 c1
    refine lv_iload hx hb (kn_dec tX2_number 59 rfl) (lv_at hl 4 rfl) ?_
    refine lv_iload_n hx hb (kn_dec tX2_number 60 rfl) rfl (lv_at hl 1 rfl) ?_
    refine lv_icmp_lt (tgt := 123) hx hb (kn_dec tX2_number 61 rfl) (by decide) (fun c2 => ?_) (fun c2 => ?_)
    · have h := h.1 c2
      exact wX2_number_b123 X e_r_0 _ _ _ _ _ _  I (lv_sub hl [0, 3, 4] rfl) h
    · have h := h.2 c2
      refine lv_iload hx hb (kn_dec tX2_number 62 rfl) (lv_at hl 4 rfl) ?_
      refine lv_iload_n hx hb (kn_dec tX2_number 63 rfl) rfl (lv_at hl 2 rfl) ?_
      refine lv_icmp_le (tgt := 129) hx hb (kn_dec tX2_number 64 rfl) (by decide) (fun c3 => ?_) (fun c3 => ?_)
      · have h := h.1 c3
        refine lv_iload hx hb (kn_dec tX2_number 69 rfl) (lv_at hl 4 rfl) ?_
        exact kw_iret hx hb hr hlocks I _ rfl h (kn_dec tX2_number 70 rfl)
      · have h := h.2 c3
        exact wX2_number_b123 X e_r_0 _ _ _ _ _ _  I (lv_sub hl [0, 3, 4] rfl) h
def PX2_number_b86 (v_t : OV) (K27 : Int32 → Int32 → Int32 → Int32 → OV → Prop) (post : Int32 → OV → Prop) (t0 : Int32) (y1 : Int32) (y2 : Int32) (y3 : Int32) (v_r : OV) : Prop := (∀ x1 : Int32, x1 = ((v_r.1 2) + ((1 : Int32))) → (∀ v_r2 : OV, v_r2 = si v_r 2 x1 → K27 y1 y2 y3 t0 v_r2))
set_option maxRecDepth 100000 in
set_option maxHeartbeats 1000000 in
theorem wX2_number_b86 {v_t : OV} {K27 : Int32 → Int32 → Int32 → Int32 → OV → Prop} {post : Int32 → OV → Prop} {ad_r : Nat → Nat} {ad_t : Nat → Nat} (X : kn_X p s m args meth c cX2_number 5 (some .int) RX2 kn_all D tc Z (kn_A w0 s.heap.size)) (e_r_0 : ad_r (0 + 1) = ad_t (0 + 1))  (hK27 : ∀ (H : Heap) (locs : List Loc) (ls : Array Slot) (y1 : Int32) (y2 : Int32) (y3 : Int32) (y4 : Int32) (v_r : OV), kn_I D tc (kn_A w0 s.heap.size) s.heap [(kReader, ad_r, v_r), (kTin, ad_t, v_t)] H locs → lv_has ls 5 [(0, .ref (ad_r 0)), (1, .int y1), (2, .int y2), (3, .int y3), (4, .int y4)] → K27 y1 y2 y3 y4 v_r → W p l e rmX2_number s m args below meth c H locs 0 0 (kn_Qi D tc w0 (fun (u : OV) => [(kReader, ad_r, u), (kTin, ad_t, v_t)]) (fun (r : Int32) (u : OV) => post r u) below args s 0 0) (F0 m 27 ls [])) : ∀ (H : Heap) (locs : List Loc) (ls : Array Slot) (t0 : Int32) (y1 : Int32) (y2 : Int32) (y3 : Int32) (v_r : OV), kn_I D tc (kn_A w0 s.heap.size) s.heap [(kReader, ad_r, v_r), (kTin, ad_t, v_t)] H locs → lv_has ls 5 [(0, .ref (ad_r 0)), (1, .int y1), (2, .int y2), (3, .int y3)] → PX2_number_b86 v_t K27 post t0 y1 y2 y3 v_r → W p l e rmX2_number s m args below meth c H locs 0 0 (kn_Qi D tc w0 (fun (u : OV) => [(kReader, ad_r, u), (kTin, ad_t, v_t)]) (fun (r : Int32) (u : OV) => post r u) below args s 0 0) (F0 m 86 ls [.int t0]) := by
  obtain ⟨S0, hr, hlocks, hK, hZ, hA⟩ := id X
  obtain ⟨hx, hb, hml, hown, hts⟩ := id S0
  intro H locs ls t0 y1 y2 y3 v_r I hl h
  unfold PX2_number_b86 at h
  refine lv_istore (lv' := [(4, .int _), (0, .ref (ad_r 0)), (1, .int _), (2, .int _), (3, .int _)]) hx hb (kn_dec tX2_number 45 rfl) hl (by decide) rfl (fun ls hl => ?_)
  refine lv_aload_n hx hb (kn_dec tX2_number 46 rfl) rfl (lv_at hl 1 rfl) ?_
  refine lv_dup hx hb (kn_dec tX2_number 47 rfl) rfl ?_
  refine kw_geti hx hb hts inX2 hown hK I 0 rfl rfl 2 (by decide) rfl (hts _ q1_40) (kn_dec tX2_number 48 rfl) ?_
  refine lv_iconst (v := (1)) hx hb (kn_dec tX2_number 49 rfl) (by decide) ?_
  refine lv_iadd hx hb (kn_dec tX2_number 50 rfl) ?_
  refine lv_topi (fun x1 ex1 => ?_)
  have h := h x1 ex1
  refine kw_puti hx hb hts inX2 tyX2 tyX2_ok nmX2 hown hK I 0 rfl rfl 2 (by decide) rfl (hts _ q1_40) rfl rfl rfl (kn_dec tX2_number 51 rfl) (fun v_r2 ev_r2 H locs I => ?_)
  have h := h v_r2 ev_r2
  have I : kn_I D tc (kn_A w0 s.heap.size) s.heap [(kReader, ad_r, _), (kTin, ad_t, _)] _ _ := I
  refine lv_goto (tgt := 27) hx hb (kn_dec tX2_number 52 rfl) (by decide) ?_
  exact hK27 _ _ _ _ _ _ _ _  I (lv_sub hl [1, 2, 3, 4, 0] rfl) h
def PX2_number_L27 (v_t : OV)  (post : Int32 → OV → Prop) : Nat → Int32 → Int32 → Int32 → Int32 → OV → Prop
  | 0, _, _, _, _, _ => False
  | n + 1, y1, y2, y3, y4, v_r => (((v_r.1 1) ≤ (v_r.1 2) → PX2_number_b101 v_t post y1 y2 y3 y4 v_r) ∧ (¬ (v_r.1 1) ≤ (v_r.1 2) → (vp_in (v_r.1 2) 400 ∧ (PX2_isDigit (v_t.2.1 0 (v_r.1 2).toNatClampNeg) (fun r3 => ((r3 = ((0 : Int32)) → PX2_number_b101 v_t post y1 y2 y3 y4 v_r) ∧ (¬ r3 = ((0 : Int32)) → ((((5 : Int32)) ≤ ((v_r.1 2) - y3) → PX2_number_b86 v_t (PX2_number_L27 v_t post n) post y4 y1 y2 y3 v_r) ∧ (¬ ((5 : Int32)) ≤ ((v_r.1 2) - y3) → (vp_in (v_r.1 2) 400 ∧ PX2_number_b86 v_t (PX2_number_L27 v_t post n) post (((y4 * ((10 : Int32))) + (v_t.2.1 0 (v_r.1 2).toNatClampNeg)) - ((48 : Int32))) y1 y2 y3 v_r))))))))))
set_option maxRecDepth 100000 in
set_option maxHeartbeats 1000000 in
theorem wX2_number_L27 {v_t : OV}  {post : Int32 → OV → Prop} {ad_r : Nat → Nat} {ad_t : Nat → Nat} (X : kn_X p s m args meth c cX2_number 5 (some .int) RX2 kn_all D tc Z (kn_A w0 s.heap.size)) (e_r_0 : ad_r (0 + 1) = ad_t (0 + 1))   : ∀ n : Nat, ∀ (H : Heap) (locs : List Loc) (ls : Array Slot) (y1 : Int32) (y2 : Int32) (y3 : Int32) (y4 : Int32) (v_r : OV), kn_I D tc (kn_A w0 s.heap.size) s.heap [(kReader, ad_r, v_r), (kTin, ad_t, v_t)] H locs → lv_has ls 5 [(0, .ref (ad_r 0)), (1, .int y1), (2, .int y2), (3, .int y3), (4, .int y4)] → PX2_number_L27 v_t post n y1 y2 y3 y4 v_r → W p l e rmX2_number s m args below meth c H locs 0 0 (kn_Qi D tc w0 (fun (u : OV) => [(kReader, ad_r, u), (kTin, ad_t, v_t)]) (fun (r : Int32) (u : OV) => post r u) below args s 0 0) (F0 m 27 ls []) := by
  obtain ⟨S0, hr, hlocks, hK, hZ, hA⟩ := id X
  obtain ⟨hx, hb, hml, hown, hts⟩ := id S0
  intro n
  induction n with
  | zero =>
    intro H locs ls y1 y2 y3 y4 v_r I hl h
    unfold PX2_number_L27 at h
    exact h.elim
  | succ n ih =>
    intro H locs ls y1 y2 y3 y4 v_r I hl h
    unfold PX2_number_L27 at h
    refine lv_aload_n hx hb (kn_dec tX2_number 14 rfl) rfl (lv_at hl 0 rfl) ?_
    refine kw_geti hx hb hts inX2 hown hK I 0 rfl rfl 2 (by decide) rfl (hts _ q1_40) (kn_dec tX2_number 15 rfl) ?_
    refine lv_aload_n hx hb (kn_dec tX2_number 16 rfl) rfl (lv_at hl 0 rfl) ?_
    refine kw_geti hx hb hts inX2 hown hK I 0 rfl rfl 1 (by decide) rfl (hts _ q1_39) (kn_dec tX2_number 17 rfl) ?_
    refine lv_icmp_ge (tgt := 101) hx hb (kn_dec tX2_number 18 rfl) (by decide) (fun c1 => ?_) (fun c1 => ?_)
    · have h := h.1 c1
      exact wX2_number_b101 X e_r_0 _ _ _ _ _ _ _ _  I (lv_sub hl [0, 1, 2, 3, 4] rfl) h
    · have h := h.2 c1
      refine lv_aload_n hx hb (kn_dec tX2_number 19 rfl) rfl (lv_at hl 0 rfl) ?_
      refine kw_getl hx hb hts inX2 hown hK I 0 rfl rfl 0 (by decide) rfl (hts _ q1_38) (kn_dec tX2_number 20 rfl) e_r_0 ?_
      refine lv_aload_n hx hb (kn_dec tX2_number 21 rfl) rfl (lv_at hl 0 rfl) ?_
      refine kw_geti hx hb hts inX2 hown hK I 0 rfl rfl 2 (by decide) rfl (hts _ q1_40) (kn_dec tX2_number 22 rfl) ?_
      obtain ⟨hs2, h⟩ := h
      refine kw_iald hx hb hK I 1 rfl 0 400 (List.mem_of_getElem? (i := 0) rfl) hs2 (kn_dec tX2_number 23 rfl) ?_
      refine kw_calli (wc := []) (wr := [(kReader, ad_r, _), (kTin, ad_t, _)]) I hA [] [0, 1] rfl rfl (by decide) (by decide) (kn_runS (As := [.int _]) S0 hK hZ hA I ((ctX2_isDigit h).met _) (kn_cwS 1 hts q3_14 q3_15 q1_3 q3_16 rfl rfl (by decide +kernel) ⟨(Nat.le_of_ble_eq_true rfl), (Nat.le_of_ble_eq_true rfl)⟩) [] rfl (by decide) rfl hl.1 rfl (Nat.le_of_ble_eq_true rfl) (kn_dec tX2_number 24 rfl) ⟨(Nat.le_of_ble_eq_true rfl), (Nat.le_of_ble_eq_true rfl)⟩) (fun r3 u4 H locs h I => ?_)
      obtain ⟨hz_r3, h⟩ := h
      have I : kn_I D tc (kn_A w0 s.heap.size) s.heap [(kReader, ad_r, _), (kTin, ad_t, _)] _ _ := I
      refine lv_if_eq (tgt := 101) hx hb (kn_dec tX2_number 25 rfl) (by decide) (fun c5 => ?_) (fun c5 => ?_)
      · have h := h.1 c5
        exact wX2_number_b101 X e_r_0 _ _ _ _ _ _ _ _  I (lv_sub hl [0, 1, 2, 3, 4] rfl) h
      · have h := h.2 c5
        refine lv_aload_n hx hb (kn_dec tX2_number 26 rfl) rfl (lv_at hl 0 rfl) ?_
        refine kw_geti hx hb hts inX2 hown hK I 0 rfl rfl 2 (by decide) rfl (hts _ q1_40) (kn_dec tX2_number 27 rfl) ?_
        refine lv_iload_n hx hb (kn_dec tX2_number 28 rfl) rfl (lv_at hl 3 rfl) ?_
        refine lv_isub hx hb (kn_dec tX2_number 29 rfl) ?_
        refine lv_iconst (v := (5)) hx hb (kn_dec tX2_number 30 rfl) (by decide) ?_
        refine lv_icmp_ge (tgt := 84) hx hb (kn_dec tX2_number 31 rfl) (by decide) (fun c6 => ?_) (fun c6 => ?_)
        · have h := h.1 c6
          refine lv_iload hx hb (kn_dec tX2_number 44 rfl) (lv_at hl 4 rfl) ?_
          exact wX2_number_b86 X e_r_0 ih _ _ _ _ _ _ _ _  I (lv_sub hl [0, 1, 2, 3] rfl) h
        · have h := h.2 c6
          refine lv_iload hx hb (kn_dec tX2_number 32 rfl) (lv_at hl 4 rfl) ?_
          refine lv_bipush (v := (10)) hx hb (kn_dec tX2_number 33 rfl) (by decide) ?_
          refine lv_imul hx hb (kn_dec tX2_number 34 rfl) ?_
          refine lv_aload_n hx hb (kn_dec tX2_number 35 rfl) rfl (lv_at hl 0 rfl) ?_
          refine kw_getl hx hb hts inX2 hown hK I 0 rfl rfl 0 (by decide) rfl (hts _ q1_38) (kn_dec tX2_number 36 rfl) e_r_0 ?_
          refine lv_aload_n hx hb (kn_dec tX2_number 37 rfl) rfl (lv_at hl 0 rfl) ?_
          refine kw_geti hx hb hts inX2 hown hK I 0 rfl rfl 2 (by decide) rfl (hts _ q1_40) (kn_dec tX2_number 38 rfl) ?_
          obtain ⟨hs7, h⟩ := h
          refine kw_iald hx hb hK I 1 rfl 0 400 (List.mem_of_getElem? (i := 0) rfl) hs7 (kn_dec tX2_number 39 rfl) ?_
          refine lv_iadd hx hb (kn_dec tX2_number 40 rfl) ?_
          refine lv_bipush (v := (48)) hx hb (kn_dec tX2_number 41 rfl) (by decide) ?_
          refine lv_isub hx hb (kn_dec tX2_number 42 rfl) ?_
          refine lv_goto (tgt := 86) hx hb (kn_dec tX2_number 43 rfl) (by decide) ?_
          exact wX2_number_b86 X e_r_0 ih _ _ _ _ _ _ _ _  I (lv_sub hl [0, 1, 2, 3] rfl) h
def PX2_number_b19 (v_t : OV)  (post : Int32 → OV → Prop) (y1 : Int32) (y2 : Int32) (v_r : OV) : Prop := (∀ x1 : Int32, x1 = (v_r.1 2) → (∃ n2 : Nat, PX2_number_L27 v_t post n2 y1 y2 x1 ((0 : Int32)) v_r))
set_option maxRecDepth 100000 in
set_option maxHeartbeats 1000000 in
theorem wX2_number_b19 {v_t : OV}  {post : Int32 → OV → Prop} {ad_r : Nat → Nat} {ad_t : Nat → Nat} (X : kn_X p s m args meth c cX2_number 5 (some .int) RX2 kn_all D tc Z (kn_A w0 s.heap.size)) (e_r_0 : ad_r (0 + 1) = ad_t (0 + 1))   : ∀ (H : Heap) (locs : List Loc) (ls : Array Slot) (y1 : Int32) (y2 : Int32) (v_r : OV), kn_I D tc (kn_A w0 s.heap.size) s.heap [(kReader, ad_r, v_r), (kTin, ad_t, v_t)] H locs → lv_has ls 5 [(0, .ref (ad_r 0)), (1, .int y1), (2, .int y2)] → PX2_number_b19 v_t post y1 y2 v_r → W p l e rmX2_number s m args below meth c H locs 0 0 (kn_Qi D tc w0 (fun (u : OV) => [(kReader, ad_r, u), (kTin, ad_t, v_t)]) (fun (r : Int32) (u : OV) => post r u) below args s 0 0) (F0 m 19 ls []) := by
  obtain ⟨S0, hr, hlocks, hK, hZ, hA⟩ := id X
  obtain ⟨hx, hb, hml, hown, hts⟩ := id S0
  intro H locs ls y1 y2 v_r I hl h
  unfold PX2_number_b19 at h
  refine lv_aload_n hx hb (kn_dec tX2_number 9 rfl) rfl (lv_at hl 0 rfl) ?_
  refine kw_geti hx hb hts inX2 hown hK I 0 rfl rfl 2 (by decide) rfl (hts _ q1_40) (kn_dec tX2_number 10 rfl) ?_
  refine lv_topi (fun x1 ex1 => ?_)
  have h := h x1 ex1
  refine lv_istore_n (lv' := [(3, .int _), (0, .ref (ad_r 0)), (1, .int _), (2, .int _)]) hx hb (kn_dec tX2_number 11 rfl) rfl hl (by decide) rfl (fun ls hl => ?_)
  refine lv_iconst (v := (0)) hx hb (kn_dec tX2_number 12 rfl) (by decide) ?_
  refine lv_istore (lv' := [(4, .int _), (3, .int _), (0, .ref (ad_r 0)), (1, .int _), (2, .int _)]) hx hb (kn_dec tX2_number 13 rfl) hl (by decide) rfl (fun ls hl => ?_)
  obtain ⟨n2, h⟩ := h
  exact wX2_number_L27 X e_r_0 n2 _ _ _ _ _ _ _ _  I (lv_sub hl [2, 3, 4, 1, 0] rfl) h
def PX2_number  (v_r : OV) (v_t : OV) (a1 : Int32) (a2 : Int32) (post : Int32 → OV → Prop) : Prop := (PX2_next v_r v_t (fun r2 v_r1 => (PX2_isDigit r2 (fun r4 => ((¬ r4 = ((0 : Int32)) → PX2_number_b19 v_t post a1 a2 v_r1) ∧ (r4 = ((0 : Int32)) → (PX2_failAt v_r1 v_t (v_r1.1 2) ((0 : Int32)) (fun v_r7 => PX2_number_b19 v_t post a1 a2 v_r7))))))))
set_option maxRecDepth 100000 in
set_option maxHeartbeats 1000000 in
theorem ctX2_number {l : Launch} {D : va_G} {tc : Nat → ClassId} {Z : (Nat → Nat) × (Nat → Nat)}  {ad_r : Nat → Nat} {ad_t : Nat → Nat} {v_r : OV} {v_t : OV} {a1 : Int32} {a2 : Int32} (e_r_0 : ad_r (0 + 1) = ad_t (0 + 1))   {post : Int32 → OV → Prop} (h : PX2_number  v_r v_t a1 a2 post) : CTi l D tc Z yX2_number (Cond.code yX2_number cX2_number 5 (some .int) :: kn_all) rmX2_number 0 0 [.ref (ad_r 0), .int a1, .int a2] [(kReader, ad_r, v_r), (kTin, ad_t, v_t)] (fun (u : OV) => [(kReader, ad_r, u), (kTin, ad_t, v_t)]) (fun (r : Int32) (u : OV) => post r u) := by
  refine kn_ofi (cc := cX2_number) (nL := 5) (ret := (some .int)) (lv := [(0, .ref (ad_r 0)), (1, .int a1), (2, .int a2)]) (by decide) (Nat.le_of_ble_eq_true rfl) rfl (fun p e s m below meth c ls X I hl _ => ?_)
  obtain ⟨S0, hr, hlocks, hK, hZ, hA⟩ := id X
  obtain ⟨hx, hb, hml, hown, hts⟩ := id S0
  unfold PX2_number at h
  refine lv_aload_n hx hb (kn_dec tX2_number 0 rfl) rfl (lv_at hl 0 rfl) ?_
  refine kw_calli (wc := [(kReader, ad_r, _), (kTin, ad_t, _)]) (wr := []) I hA [0, 1] [] rfl rfl (by decide) (by decide) (kn_runV (As := []) S0 hK hZ hA I ((ctX2_next e_r_0 h).met _) (kn_cwV 0 hts q2_174 q2_175 q2_176 q1_3 q2_177 rfl rfl (by decide +kernel) ⟨(Nat.le_of_ble_eq_true rfl), (Nat.le_of_ble_eq_true rfl)⟩) [0, 1] rfl (by decide) 0 rfl rfl rfl rfl hl.1 rfl (Nat.le_of_ble_eq_true rfl) (kn_dec tX2_number 1 rfl) ⟨(Nat.le_of_ble_eq_true rfl), (Nat.le_of_ble_eq_true rfl)⟩) (fun r2 u3 H locs h I => ?_)
  have I : kn_I D tc (kn_A _ s.heap.size) s.heap [(kReader, ad_r, _), (kTin, ad_t, _)] _ _ := I
  refine kw_calli (wc := []) (wr := [(kReader, ad_r, _), (kTin, ad_t, _)]) I hA [] [0, 1] rfl rfl (by decide) (by decide) (kn_runS (As := [.int _]) S0 hK hZ hA I ((ctX2_isDigit h).met _) (kn_cwS 1 hts q3_14 q3_15 q1_3 q3_16 rfl rfl (by decide +kernel) ⟨(Nat.le_of_ble_eq_true rfl), (Nat.le_of_ble_eq_true rfl)⟩) [] rfl (by decide) rfl hl.1 rfl (Nat.le_of_ble_eq_true rfl) (kn_dec tX2_number 2 rfl) ⟨(Nat.le_of_ble_eq_true rfl), (Nat.le_of_ble_eq_true rfl)⟩) (fun r4 u5 H locs h I => ?_)
  obtain ⟨hz_r4, h⟩ := h
  have I : kn_I D tc (kn_A _ s.heap.size) s.heap [(kReader, ad_r, _), (kTin, ad_t, _)] _ _ := I
  refine lv_if_ne (tgt := 19) hx hb (kn_dec tX2_number 3 rfl) (by decide) (fun c6 => ?_) (fun c6 => ?_)
  · have h := h.1 c6
    exact wX2_number_b19 X e_r_0 _ _ _ _ _ _  I (lv_sub hl [0, 1, 2] rfl) h
  · have h := h.2 c6
    refine lv_aload_n hx hb (kn_dec tX2_number 4 rfl) rfl (lv_at hl 0 rfl) ?_
    refine lv_aload_n hx hb (kn_dec tX2_number 5 rfl) rfl (lv_at hl 0 rfl) ?_
    refine kw_geti hx hb hts inX2 hown hK I 0 rfl rfl 2 (by decide) rfl (hts _ q1_40) (kn_dec tX2_number 6 rfl) ?_
    refine lv_iconst (v := (0)) hx hb (kn_dec tX2_number 7 rfl) (by decide) ?_
    refine kw_callv (wc := [(kReader, ad_r, _), (kTin, ad_t, _)]) (wr := []) I hA [0, 1] [] rfl rfl (by decide) (by decide) (kn_runV (As := [.int _, .int _]) S0 hK hZ hA I ((ctX2_failAt e_r_0 h).met _) (kn_cwV 2 hts q3_17 q2_235 q2_236 q1_3 q2_237 rfl rfl (by decide +kernel) ⟨(Nat.le_of_ble_eq_true rfl), (Nat.le_of_ble_eq_true rfl)⟩) [0, 1] rfl (by decide) 0 rfl rfl rfl rfl hl.1 rfl (Nat.le_of_ble_eq_true rfl) (kn_dec tX2_number 8 rfl) ⟨(Nat.le_of_ble_eq_true rfl), (Nat.le_of_ble_eq_true rfl)⟩) (fun u8 H locs h I => ?_)
    have I : kn_I D tc (kn_A _ s.heap.size) s.heap [(kReader, ad_r, _), (kTin, ad_t, _)] _ _ := I
    exact wX2_number_b19 X e_r_0 _ _ _ _ _ _  I (lv_sub hl [0, 1, 2] rfl) h

/-! X2_wordSize -/
abbrev rmX2_wordSize : Room := { frames := 0, cells := 0, slots := 0, locals := 0 }
def PX2_wordSize_b41 (v_r : OV) (v_t : OV)  (post : Int32 → Prop) (y1 : Int32) : Prop := post (y1 - (v_r.1 2))
set_option maxRecDepth 100000 in
set_option maxHeartbeats 1000000 in
theorem wX2_wordSize_b41 {v_r : OV} {v_t : OV}  {post : Int32 → Prop} {ad_r : Nat → Nat} {ad_t : Nat → Nat} (X : kn_X p s m args meth c cX2_wordSize 2 (some .int) RX2 kn_all D tc Z (kn_A w0 s.heap.size)) (e_r_0 : ad_r (0 + 1) = ad_t (0 + 1))   : ∀ (H : Heap) (locs : List Loc) (ls : Array Slot) (y1 : Int32), kn_I D tc (kn_A w0 s.heap.size) s.heap [(kReader, ad_r, v_r), (kTin, ad_t, v_t)] H locs → lv_has ls 2 [(0, .ref (ad_r 0)), (1, .int y1)] → PX2_wordSize_b41 v_r v_t post y1 → W p l e rmX2_wordSize s m args below meth c H locs 0 0 (kn_Qi D tc w0 (fun (u : Unit) => [(kReader, ad_r, v_r), (kTin, ad_t, v_t)]) (fun (r : Int32) (u : Unit) => post r) below args s 0 0) (F0 m 41 ls []) := by
  obtain ⟨S0, hr, hlocks, hK, hZ, hA⟩ := id X
  obtain ⟨hx, hb, hml, hown, hts⟩ := id S0
  intro H locs ls y1 I hl h
  unfold PX2_wordSize_b41 at h
  refine lv_iload_n hx hb (kn_dec tX2_wordSize 21 rfl) rfl (lv_at hl 1 rfl) ?_
  refine lv_aload_n hx hb (kn_dec tX2_wordSize 22 rfl) rfl (lv_at hl 0 rfl) ?_
  refine kw_geti hx hb hts inX2 hown hK I 0 rfl rfl 2 (by decide) rfl (hts _ q1_40) (kn_dec tX2_wordSize 23 rfl) ?_
  refine lv_isub hx hb (kn_dec tX2_wordSize 24 rfl) ?_
  exact kw_iret hx hb hr hlocks I () rfl h (kn_dec tX2_wordSize 25 rfl)
def PX2_wordSize_L5 (v_r : OV) (v_t : OV)  (post : Int32 → Prop) : Nat → Int32 → Prop
  | 0, _ => False
  | n + 1, y1 => (((v_r.1 1) ≤ y1 → PX2_wordSize_b41 v_r v_t post y1) ∧ (¬ (v_r.1 1) ≤ y1 → (vp_in y1 400 ∧ (((v_t.2.1 0 y1.toNatClampNeg) < ((97 : Int32)) → PX2_wordSize_b41 v_r v_t post y1) ∧ (¬ (v_t.2.1 0 y1.toNatClampNeg) < ((97 : Int32)) → (vp_in y1 400 ∧ ((((122 : Int32)) < (v_t.2.1 0 y1.toNatClampNeg) → PX2_wordSize_b41 v_r v_t post y1) ∧ (¬ ((122 : Int32)) < (v_t.2.1 0 y1.toNatClampNeg) → (∀ x6 : Int32, x6 = y1 + (1 : Int32) → PX2_wordSize_L5 v_r v_t post n x6)))))))))
set_option maxRecDepth 100000 in
set_option maxHeartbeats 1000000 in
theorem wX2_wordSize_L5 {v_r : OV} {v_t : OV}  {post : Int32 → Prop} {ad_r : Nat → Nat} {ad_t : Nat → Nat} (X : kn_X p s m args meth c cX2_wordSize 2 (some .int) RX2 kn_all D tc Z (kn_A w0 s.heap.size)) (e_r_0 : ad_r (0 + 1) = ad_t (0 + 1))   : ∀ n : Nat, ∀ (H : Heap) (locs : List Loc) (ls : Array Slot) (y1 : Int32), kn_I D tc (kn_A w0 s.heap.size) s.heap [(kReader, ad_r, v_r), (kTin, ad_t, v_t)] H locs → lv_has ls 2 [(0, .ref (ad_r 0)), (1, .int y1)] → PX2_wordSize_L5 v_r v_t post n y1 → W p l e rmX2_wordSize s m args below meth c H locs 0 0 (kn_Qi D tc w0 (fun (u : Unit) => [(kReader, ad_r, v_r), (kTin, ad_t, v_t)]) (fun (r : Int32) (u : Unit) => post r) below args s 0 0) (F0 m 5 ls []) := by
  obtain ⟨S0, hr, hlocks, hK, hZ, hA⟩ := id X
  obtain ⟨hx, hb, hml, hown, hts⟩ := id S0
  intro n
  induction n with
  | zero =>
    intro H locs ls y1 I hl h
    unfold PX2_wordSize_L5 at h
    exact h.elim
  | succ n ih =>
    intro H locs ls y1 I hl h
    unfold PX2_wordSize_L5 at h
    refine lv_iload_n hx hb (kn_dec tX2_wordSize 3 rfl) rfl (lv_at hl 1 rfl) ?_
    refine lv_aload_n hx hb (kn_dec tX2_wordSize 4 rfl) rfl (lv_at hl 0 rfl) ?_
    refine kw_geti hx hb hts inX2 hown hK I 0 rfl rfl 1 (by decide) rfl (hts _ q1_39) (kn_dec tX2_wordSize 5 rfl) ?_
    refine lv_icmp_ge (tgt := 41) hx hb (kn_dec tX2_wordSize 6 rfl) (by decide) (fun c1 => ?_) (fun c1 => ?_)
    · have h := h.1 c1
      exact wX2_wordSize_b41 X e_r_0 _ _ _ _  I (lv_sub hl [0, 1] rfl) h
    · have h := h.2 c1
      refine lv_aload_n hx hb (kn_dec tX2_wordSize 7 rfl) rfl (lv_at hl 0 rfl) ?_
      refine kw_getl hx hb hts inX2 hown hK I 0 rfl rfl 0 (by decide) rfl (hts _ q1_38) (kn_dec tX2_wordSize 8 rfl) e_r_0 ?_
      refine lv_iload_n hx hb (kn_dec tX2_wordSize 9 rfl) rfl (lv_at hl 1 rfl) ?_
      obtain ⟨hs2, h⟩ := h
      refine kw_iald hx hb hK I 1 rfl 0 400 (List.mem_of_getElem? (i := 0) rfl) hs2 (kn_dec tX2_wordSize 10 rfl) ?_
      refine lv_bipush (v := (97)) hx hb (kn_dec tX2_wordSize 11 rfl) (by decide) ?_
      refine lv_icmp_lt (tgt := 41) hx hb (kn_dec tX2_wordSize 12 rfl) (by decide) (fun c3 => ?_) (fun c3 => ?_)
      · have h := h.1 c3
        exact wX2_wordSize_b41 X e_r_0 _ _ _ _  I (lv_sub hl [0, 1] rfl) h
      · have h := h.2 c3
        refine lv_aload_n hx hb (kn_dec tX2_wordSize 13 rfl) rfl (lv_at hl 0 rfl) ?_
        refine kw_getl hx hb hts inX2 hown hK I 0 rfl rfl 0 (by decide) rfl (hts _ q1_38) (kn_dec tX2_wordSize 14 rfl) e_r_0 ?_
        refine lv_iload_n hx hb (kn_dec tX2_wordSize 15 rfl) rfl (lv_at hl 1 rfl) ?_
        obtain ⟨hs4, h⟩ := h
        refine kw_iald hx hb hK I 1 rfl 0 400 (List.mem_of_getElem? (i := 0) rfl) hs4 (kn_dec tX2_wordSize 16 rfl) ?_
        refine lv_bipush (v := (122)) hx hb (kn_dec tX2_wordSize 17 rfl) (by decide) ?_
        refine lv_icmp_gt (tgt := 41) hx hb (kn_dec tX2_wordSize 18 rfl) (by decide) (fun c5 => ?_) (fun c5 => ?_)
        · have h := h.1 c5
          exact wX2_wordSize_b41 X e_r_0 _ _ _ _  I (lv_sub hl [0, 1] rfl) h
        · have h := h.2 c5
          refine kw_iinc (lvf := fun y => [(1, .int y), (0, .ref (ad_r 0))]) (nv := (1)) hx hb (kn_dec tX2_wordSize 19 rfl) hl (k := 1) rfl (by decide) (by decide) (fun _ => rfl) (fun x6 ex6 ls hl => ?_)
          have h := h x6 ex6
          refine lv_goto (tgt := 5) hx hb (kn_dec tX2_wordSize 20 rfl) (by decide) ?_
          exact ih _ _ _ _  I (lv_sub hl [1, 0] rfl) h
def PX2_wordSize  (v_r : OV) (v_t : OV) (post : Int32 → Prop) : Prop := (∀ x1 : Int32, x1 = (v_r.1 2) → (∃ n2 : Nat, PX2_wordSize_L5 v_r v_t post n2 x1))
set_option maxRecDepth 100000 in
set_option maxHeartbeats 1000000 in
theorem ctX2_wordSize {l : Launch} {D : va_G} {tc : Nat → ClassId} {Z : (Nat → Nat) × (Nat → Nat)}  {ad_r : Nat → Nat} {ad_t : Nat → Nat} {v_r : OV} {v_t : OV} (e_r_0 : ad_r (0 + 1) = ad_t (0 + 1))   {post : Int32 → Prop} (h : PX2_wordSize  v_r v_t post) : CTi l D tc Z yX2_wordSize (Cond.code yX2_wordSize cX2_wordSize 2 (some .int) :: kn_all) rmX2_wordSize 0 0 [.ref (ad_r 0)] [(kReader, ad_r, v_r), (kTin, ad_t, v_t)] (fun (u : Unit) => [(kReader, ad_r, v_r), (kTin, ad_t, v_t)]) (fun (r : Int32) (u : Unit) => post r) := by
  refine kn_ofi (cc := cX2_wordSize) (nL := 2) (ret := (some .int)) (lv := [(0, .ref (ad_r 0))]) (by decide) (Nat.le_of_ble_eq_true rfl) rfl (fun p e s m below meth c ls X I hl _ => ?_)
  obtain ⟨S0, hr, hlocks, hK, hZ, hA⟩ := id X
  obtain ⟨hx, hb, hml, hown, hts⟩ := id S0
  unfold PX2_wordSize at h
  refine lv_aload_n hx hb (kn_dec tX2_wordSize 0 rfl) rfl (lv_at hl 0 rfl) ?_
  refine kw_geti hx hb hts inX2 hown hK I 0 rfl rfl 2 (by decide) rfl (hts _ q1_40) (kn_dec tX2_wordSize 1 rfl) ?_
  refine lv_topi (fun x1 ex1 => ?_)
  have h := h x1 ex1
  refine lv_istore_n (lv' := [(1, .int _), (0, .ref (ad_r 0))]) hx hb (kn_dec tX2_wordSize 2 rfl) rfl hl (by decide) rfl (fun ls hl => ?_)
  obtain ⟨n2, h⟩ := h
  exact wX2_wordSize_L5 X e_r_0 n2 _ _ _ _  I (lv_sub hl [1, 0] rfl) h

/-! X2_isSame -/
abbrev rmX2_isSame : Room := { frames := 4, cells := 0, slots := 0, locals := 85 }
def PX2_isSame_L3 (v_r : OV) (v_t : OV) (s1 : Nat)  (post : Int32 → Prop) : Nat → Int32 → Int32 → Int32 → Prop
  | 0, _, _, _ => False
  | n + 1, y2, y3, y4 => ((y3 ≤ y4 → post ((1 : Int32))) ∧ (¬ y3 ≤ y4 → (((v_r.1 1) ≤ ((v_r.1 2) + y4) → post ((1 : Int32))) ∧ (¬ (v_r.1 1) ≤ ((v_r.1 2) + y4) → (s1 < 30 ∧ (PJ0_length_8abf5 s1 (fun r3 => ((r3 ≤ (y2 + y4) → post ((1 : Int32))) ∧ (¬ r3 ≤ (y2 + y4) → (vp_in ((v_r.1 2) + y4) 400 ∧ (s1 < 30 ∧ (PJ0_charAt_5068e s1 (y2 + y4) (fun r8 => (((v_t.2.1 0 ((v_r.1 2) + y4).toNatClampNeg) = r8 → (∀ x12 : Int32, x12 = y4 + (1 : Int32) → PX2_isSame_L3 v_r v_t s1 post n y2 y3 x12)) ∧ (¬ (v_t.2.1 0 ((v_r.1 2) + y4).toNatClampNeg) = r8 → post ((0 : Int32)))))))))))))))))
set_option maxRecDepth 100000 in
set_option maxHeartbeats 1000000 in
theorem wX2_isSame_L3 {v_r : OV} {v_t : OV} {s1 : Nat}  {post : Int32 → Prop} {ad_r : Nat → Nat} {ad_t : Nat → Nat} (X : kn_X p s m args meth c cX2_isSame 5 (some .boolean) RX2 kn_all D tc Z (kn_A w0 s.heap.size)) (e_r_0 : ad_r (0 + 1) = ad_t (0 + 1))   : ∀ n : Nat, ∀ (H : Heap) (locs : List Loc) (ls : Array Slot) (y2 : Int32) (y3 : Int32) (y4 : Int32), kn_I D tc (kn_A w0 s.heap.size) s.heap [(kReader, ad_r, v_r), (kTin, ad_t, v_t)] H locs → lv_has ls 5 [(0, .ref (ad_r 0)), (1, .ref (Z.1 s1)), (2, .int y2), (3, .int y3), (4, .int y4)] → PX2_isSame_L3 v_r v_t s1 post n y2 y3 y4 → W p l e rmX2_isSame s m args below meth c H locs 0 0 (kn_Qi D tc w0 (fun (u : Unit) => [(kReader, ad_r, v_r), (kTin, ad_t, v_t)]) (fun (r : Int32) (u : Unit) => (r = 0 ∨ r = 1) ∧ post r) below args s 0 0) (F0 m 3 ls []) := by
  obtain ⟨S0, hr, hlocks, hK, hZ, hA⟩ := id X
  obtain ⟨hx, hb, hml, hown, hts⟩ := id S0
  intro n
  induction n with
  | zero =>
    intro H locs ls y2 y3 y4 I hl h
    unfold PX2_isSame_L3 at h
    exact h.elim
  | succ n ih =>
    intro H locs ls y2 y3 y4 I hl h
    unfold PX2_isSame_L3 at h
    refine lv_iload hx hb (kn_dec tX2_isSame 2 rfl) (lv_at hl 4 rfl) ?_
    refine lv_iload_n hx hb (kn_dec tX2_isSame 3 rfl) rfl (lv_at hl 3 rfl) ?_
    refine lv_icmp_ge (tgt := 65) hx hb (kn_dec tX2_isSame 4 rfl) (by decide) (fun c1 => ?_) (fun c1 => ?_)
    · have h := h.1 c1
      refine lv_iconst (v := (1)) hx hb (kn_dec tX2_isSame 35 rfl) (by decide) ?_
      exact kw_zret hx hb hr (kn_nz (Or.inr rfl)) hlocks I () rfl ⟨(Or.inr rfl), h⟩ (kn_dec tX2_isSame 36 rfl)
    · have h := h.2 c1
      refine lv_aload_n hx hb (kn_dec tX2_isSame 5 rfl) rfl (lv_at hl 0 rfl) ?_
      refine kw_geti hx hb hts inX2 hown hK I 0 rfl rfl 2 (by decide) rfl (hts _ q1_40) (kn_dec tX2_isSame 6 rfl) ?_
      refine lv_iload hx hb (kn_dec tX2_isSame 7 rfl) (lv_at hl 4 rfl) ?_
      refine lv_iadd hx hb (kn_dec tX2_isSame 8 rfl) ?_
      refine lv_aload_n hx hb (kn_dec tX2_isSame 9 rfl) rfl (lv_at hl 0 rfl) ?_
      refine kw_geti hx hb hts inX2 hown hK I 0 rfl rfl 1 (by decide) rfl (hts _ q1_39) (kn_dec tX2_isSame 10 rfl) ?_
      refine lv_icmp_ge (tgt := 65) hx hb (kn_dec tX2_isSame 11 rfl) (by decide) (fun c2 => ?_) (fun c2 => ?_)
      · have h := h.1 c2
        refine lv_iconst (v := (1)) hx hb (kn_dec tX2_isSame 35 rfl) (by decide) ?_
        exact kw_zret hx hb hr (kn_nz (Or.inr rfl)) hlocks I () rfl ⟨(Or.inr rfl), h⟩ (kn_dec tX2_isSame 36 rfl)
      · have h := h.2 c2
        refine lv_iload_n hx hb (kn_dec tX2_isSame 12 rfl) rfl (lv_at hl 2 rfl) ?_
        refine lv_iload hx hb (kn_dec tX2_isSame 13 rfl) (lv_at hl 4 rfl) ?_
        refine lv_iadd hx hb (kn_dec tX2_isSame 14 rfl) ?_
        refine lv_aload_n hx hb (kn_dec tX2_isSame 15 rfl) rfl (lv_at hl 1 rfl) ?_
        obtain ⟨hs4, h⟩ := h
        refine kw_calli (wc := []) (wr := [(kReader, ad_r, _), (kTin, ad_t, _)]) I hA [] [0, 1] rfl rfl (by decide) (by decide) (kn_runVR (As := []) S0 hK hZ hA I ((ctJ0_length_8abf5 h).met _) (kn_cwV 0 hts q2_182 q2_183 q2_184 q1_12 q2_185 rfl rfl (by decide +kernel) ⟨(Nat.le_of_ble_eq_true rfl), (Nat.le_of_ble_eq_true rfl)⟩) [] rfl (by decide) (vk_recv (kn_zs hZ hs4) (i := 0) (by decide) I.2.2) rfl hl.1 rfl (Nat.le_of_ble_eq_true rfl) (kn_dec tX2_isSame 16 rfl) ⟨(Nat.le_of_ble_eq_true rfl), (Nat.le_of_ble_eq_true rfl)⟩) (fun r3 u5 H locs h I => ?_)
        have I : kn_I D tc (kn_A w0 s.heap.size) s.heap [(kReader, ad_r, _), (kTin, ad_t, _)] _ _ := I
        refine lv_icmp_ge (tgt := 65) hx hb (kn_dec tX2_isSame 17 rfl) (by decide) (fun c6 => ?_) (fun c6 => ?_)
        · have h := h.1 c6
          refine lv_iconst (v := (1)) hx hb (kn_dec tX2_isSame 35 rfl) (by decide) ?_
          exact kw_zret hx hb hr (kn_nz (Or.inr rfl)) hlocks I () rfl ⟨(Or.inr rfl), h⟩ (kn_dec tX2_isSame 36 rfl)
        · have h := h.2 c6
          refine lv_aload_n hx hb (kn_dec tX2_isSame 18 rfl) rfl (lv_at hl 0 rfl) ?_
          refine kw_getl hx hb hts inX2 hown hK I 0 rfl rfl 0 (by decide) rfl (hts _ q1_38) (kn_dec tX2_isSame 19 rfl) e_r_0 ?_
          refine lv_aload_n hx hb (kn_dec tX2_isSame 20 rfl) rfl (lv_at hl 0 rfl) ?_
          refine kw_geti hx hb hts inX2 hown hK I 0 rfl rfl 2 (by decide) rfl (hts _ q1_40) (kn_dec tX2_isSame 21 rfl) ?_
          refine lv_iload hx hb (kn_dec tX2_isSame 22 rfl) (lv_at hl 4 rfl) ?_
          refine lv_iadd hx hb (kn_dec tX2_isSame 23 rfl) ?_
          obtain ⟨hs7, h⟩ := h
          refine kw_iald hx hb hK I 1 rfl 0 400 (List.mem_of_getElem? (i := 0) rfl) hs7 (kn_dec tX2_isSame 24 rfl) ?_
          refine lv_aload_n hx hb (kn_dec tX2_isSame 25 rfl) rfl (lv_at hl 1 rfl) ?_
          refine lv_iload_n hx hb (kn_dec tX2_isSame 26 rfl) rfl (lv_at hl 2 rfl) ?_
          refine lv_iload hx hb (kn_dec tX2_isSame 27 rfl) (lv_at hl 4 rfl) ?_
          refine lv_iadd hx hb (kn_dec tX2_isSame 28 rfl) ?_
          obtain ⟨hs9, h⟩ := h
          refine kw_calli (wc := []) (wr := [(kReader, ad_r, _), (kTin, ad_t, _)]) I hA [] [0, 1] rfl rfl (by decide) (by decide) (kn_runVR (As := [.int _]) S0 hK hZ hA I ((ctJ0_charAt_5068e h).met _) (kn_cwV 1 hts q2_192 q2_193 q2_194 q1_12 q2_195 rfl rfl (by decide +kernel) ⟨(Nat.le_of_ble_eq_true rfl), (Nat.le_of_ble_eq_true rfl)⟩) [] rfl (by decide) (vk_recv (kn_zs hZ hs9) (i := 0) (by decide) I.2.2) rfl hl.1 rfl (Nat.le_of_ble_eq_true rfl) (kn_dec tX2_isSame 29 rfl) ⟨(Nat.le_of_ble_eq_true rfl), (Nat.le_of_ble_eq_true rfl)⟩) (fun r8 u10 H locs h I => ?_)
          obtain ⟨hc_r8, h⟩ := h
          have I : kn_I D tc (kn_A w0 s.heap.size) s.heap [(kReader, ad_r, _), (kTin, ad_t, _)] _ _ := I
          refine lv_icmp_eq (tgt := 59) hx hb (kn_dec tX2_isSame 30 rfl) (by decide) (fun c11 => ?_) (fun c11 => ?_)
          · have h := h.1 c11
            refine kw_iinc (lvf := fun y => [(4, .int y), (0, .ref (ad_r 0)), (1, .ref (Z.1 s1)), (2, .int _), (3, .int _)]) (nv := (1)) hx hb (kn_dec tX2_isSame 33 rfl) hl (k := 4) rfl (by decide) (by decide) (fun _ => rfl) (fun x12 ex12 ls hl => ?_)
            have h := h x12 ex12
            refine lv_goto (tgt := 3) hx hb (kn_dec tX2_isSame 34 rfl) (by decide) ?_
            exact ih _ _ _ _ _ _  I (lv_sub hl [1, 2, 3, 4, 0] rfl) h
          · have h := h.2 c11
            refine lv_iconst (v := (0)) hx hb (kn_dec tX2_isSame 31 rfl) (by decide) ?_
            exact kw_zret hx hb hr (kn_nz (Or.inl rfl)) hlocks I () rfl ⟨(Or.inl rfl), h⟩ (kn_dec tX2_isSame 32 rfl)
def PX2_isSame  (v_r : OV) (v_t : OV) (s1 : Nat) (a2 : Int32) (a3 : Int32) (post : Int32 → Prop) : Prop := (∃ n1 : Nat, PX2_isSame_L3 v_r v_t s1 post n1 a2 a3 ((0 : Int32)))
set_option maxRecDepth 100000 in
set_option maxHeartbeats 1000000 in
theorem ctX2_isSame {l : Launch} {D : va_G} {tc : Nat → ClassId} {Z : (Nat → Nat) × (Nat → Nat)}  {ad_r : Nat → Nat} {ad_t : Nat → Nat} {v_r : OV} {v_t : OV} {s1 : Nat} {a2 : Int32} {a3 : Int32} (e_r_0 : ad_r (0 + 1) = ad_t (0 + 1))   {post : Int32 → Prop} (h : PX2_isSame  v_r v_t s1 a2 a3 post) : CTi l D tc Z yX2_isSame (Cond.code yX2_isSame cX2_isSame 5 (some .boolean) :: kn_all) rmX2_isSame 0 0 [.ref (ad_r 0), .ref (Z.1 s1), .int a2, .int a3] [(kReader, ad_r, v_r), (kTin, ad_t, v_t)] (fun (u : Unit) => [(kReader, ad_r, v_r), (kTin, ad_t, v_t)]) (fun (r : Int32) (u : Unit) => (r = 0 ∨ r = 1) ∧ post r) := by
  refine kn_ofi (cc := cX2_isSame) (nL := 5) (ret := (some .boolean)) (lv := [(0, .ref (ad_r 0)), (1, .ref (Z.1 s1)), (2, .int a2), (3, .int a3)]) (by decide) (Nat.le_of_ble_eq_true rfl) rfl (fun p e s m below meth c ls X I hl _ => ?_)
  obtain ⟨S0, hr, hlocks, hK, hZ, hA⟩ := id X
  obtain ⟨hx, hb, hml, hown, hts⟩ := id S0
  unfold PX2_isSame at h
  refine lv_iconst (v := (0)) hx hb (kn_dec tX2_isSame 0 rfl) (by decide) ?_
  refine lv_istore (lv' := [(4, .int _), (0, .ref (ad_r 0)), (1, .ref (Z.1 s1)), (2, .int _), (3, .int _)]) hx hb (kn_dec tX2_isSame 1 rfl) hl (by decide) rfl (fun ls hl => ?_)
  obtain ⟨n1, h⟩ := h
  exact wX2_isSame_L3 X e_r_0 n1 _ _ _ _ _ _  I (lv_sub hl [1, 2, 3, 4, 0] rfl) h

/-! X2_word -/
abbrev rmX2_word : Room := { frames := 5, cells := 0, slots := 0, locals := 109 }
def PX2_word_b73 (v_t : OV) (s1 : Nat) (K18 : Int32 → Int32 → Int32 → Int32 → OV → Prop) (post : Int32 → OV → Prop) (y2 : Int32) (y3 : Int32) (y5 : Int32) (v_r : OV) : Prop := (∀ x1 : Int32, x1 = y3 + (1 : Int32) → (∀ x2 : Int32, x2 = (y5 + ((1 : Int32))) → (∀ x3 : Int32, x3 = y5 + (1 : Int32) → K18 y2 x1 x2 x3 v_r)))
set_option maxRecDepth 100000 in
set_option maxHeartbeats 1000000 in
theorem wX2_word_b73 {v_t : OV} {s1 : Nat} {K18 : Int32 → Int32 → Int32 → Int32 → OV → Prop} {post : Int32 → OV → Prop} {ad_r : Nat → Nat} {ad_t : Nat → Nat} (X : kn_X p s m args meth c cX2_word 6 (some .int) RX2 kn_all D tc Z (kn_A w0 s.heap.size)) (e_r_0 : ad_r (0 + 1) = ad_t (0 + 1))  (hK18 : ∀ (H : Heap) (locs : List Loc) (ls : Array Slot) (y2 : Int32) (y3 : Int32) (y4 : Int32) (y5 : Int32) (v_r : OV), kn_I D tc (kn_A w0 s.heap.size) s.heap [(kReader, ad_r, v_r), (kTin, ad_t, v_t)] H locs → lv_has ls 6 [(0, .ref (ad_r 0)), (1, .ref (Z.1 s1)), (2, .int y2), (3, .int y3), (4, .int y4), (5, .int y5)] → K18 y2 y3 y4 y5 v_r → W p l e rmX2_word s m args below meth c H locs 0 0 (kn_Qi D tc w0 (fun (u : OV) => [(kReader, ad_r, u), (kTin, ad_t, v_t)]) (fun (r : Int32) (u : OV) => post r u) below args s 0 0) (F0 m 18 ls [])) : ∀ (H : Heap) (locs : List Loc) (ls : Array Slot) (y2 : Int32) (y3 : Int32) (y5 : Int32) (v_r : OV), kn_I D tc (kn_A w0 s.heap.size) s.heap [(kReader, ad_r, v_r), (kTin, ad_t, v_t)] H locs → lv_has ls 6 [(0, .ref (ad_r 0)), (1, .ref (Z.1 s1)), (2, .int y2), (3, .int y3), (5, .int y5)] → PX2_word_b73 v_t s1 K18 post y2 y3 y5 v_r → W p l e rmX2_word s m args below meth c H locs 0 0 (kn_Qi D tc w0 (fun (u : OV) => [(kReader, ad_r, u), (kTin, ad_t, v_t)]) (fun (r : Int32) (u : OV) => post r u) below args s 0 0) (F0 m 73 ls []) := by
  obtain ⟨S0, hr, hlocks, hK, hZ, hA⟩ := id X
  obtain ⟨hx, hb, hml, hown, hts⟩ := id S0
  intro H locs ls y2 y3 y5 v_r I hl h
  unfold PX2_word_b73 at h
  refine kw_iinc (lvf := fun y => [(3, .int y), (0, .ref (ad_r 0)), (1, .ref (Z.1 s1)), (2, .int _), (5, .int _)]) (nv := (1)) hx hb (kn_dec tX2_word 40 rfl) hl (k := 3) rfl (by decide) (by decide) (fun _ => rfl) (fun x1 ex1 ls hl => ?_)
  have h := h x1 ex1
  refine lv_iload hx hb (kn_dec tX2_word 41 rfl) (lv_at hl 4 rfl) ?_
  refine lv_iconst (v := (1)) hx hb (kn_dec tX2_word 42 rfl) (by decide) ?_
  refine lv_iadd hx hb (kn_dec tX2_word 43 rfl) ?_
  refine lv_topi (fun x2 ex2 => ?_)
  have h := h x2 ex2
  refine lv_istore (lv' := [(4, .int _), (3, .int _), (0, .ref (ad_r 0)), (1, .ref (Z.1 s1)), (2, .int _), (5, .int _)]) hx hb (kn_dec tX2_word 44 rfl) hl (by decide) rfl (fun ls hl => ?_)
  refine kw_iinc (lvf := fun y => [(5, .int y), (4, .int _), (3, .int _), (0, .ref (ad_r 0)), (1, .ref (Z.1 s1)), (2, .int _)]) (nv := (1)) hx hb (kn_dec tX2_word 45 rfl) hl (k := 5) rfl (by decide) (by decide) (fun _ => rfl) (fun x3 ex3 ls hl => ?_)
  have h := h x3 ex3
  refine lv_goto (tgt := 18) hx hb (kn_dec tX2_word 46 rfl) (by decide) ?_
  exact hK18 _ _ _ _ _ _ _ _  I (lv_sub hl [3, 4, 5, 2, 1, 0] rfl) h
def PX2_word_b47 (v_t : OV) (s1 : Nat) (K18 : Int32 → Int32 → Int32 → Int32 → OV → Prop) (post : Int32 → OV → Prop) (y2 : Int32) (y3 : Int32) (y4 : Int32) (y5 : Int32) (v_r : OV) : Prop := ((y2 ≤ ((0 : Int32)) → PX2_word_b73 v_t s1 K18 post y2 y3 y5 v_r) ∧ (¬ y2 ≤ ((0 : Int32)) → ((¬ (y5 - y4) = y2 → PX2_word_b73 v_t s1 K18 post y2 y3 y5 v_r) ∧ ((y5 - y4) = y2 → (PX2_isSame v_r v_t s1 y4 y2 (fun r3 => ((r3 = ((0 : Int32)) → PX2_word_b73 v_t s1 K18 post y2 y3 y5 v_r) ∧ (¬ r3 = ((0 : Int32)) → post y3 v_r))))))))
set_option maxRecDepth 100000 in
set_option maxHeartbeats 1000000 in
theorem wX2_word_b47 {v_t : OV} {s1 : Nat} {K18 : Int32 → Int32 → Int32 → Int32 → OV → Prop} {post : Int32 → OV → Prop} {ad_r : Nat → Nat} {ad_t : Nat → Nat} (X : kn_X p s m args meth c cX2_word 6 (some .int) RX2 kn_all D tc Z (kn_A w0 s.heap.size)) (e_r_0 : ad_r (0 + 1) = ad_t (0 + 1))  (hK18 : ∀ (H : Heap) (locs : List Loc) (ls : Array Slot) (y2 : Int32) (y3 : Int32) (y4 : Int32) (y5 : Int32) (v_r : OV), kn_I D tc (kn_A w0 s.heap.size) s.heap [(kReader, ad_r, v_r), (kTin, ad_t, v_t)] H locs → lv_has ls 6 [(0, .ref (ad_r 0)), (1, .ref (Z.1 s1)), (2, .int y2), (3, .int y3), (4, .int y4), (5, .int y5)] → K18 y2 y3 y4 y5 v_r → W p l e rmX2_word s m args below meth c H locs 0 0 (kn_Qi D tc w0 (fun (u : OV) => [(kReader, ad_r, u), (kTin, ad_t, v_t)]) (fun (r : Int32) (u : OV) => post r u) below args s 0 0) (F0 m 18 ls [])) : ∀ (H : Heap) (locs : List Loc) (ls : Array Slot) (y2 : Int32) (y3 : Int32) (y4 : Int32) (y5 : Int32) (v_r : OV), kn_I D tc (kn_A w0 s.heap.size) s.heap [(kReader, ad_r, v_r), (kTin, ad_t, v_t)] H locs → lv_has ls 6 [(0, .ref (ad_r 0)), (1, .ref (Z.1 s1)), (2, .int y2), (3, .int y3), (4, .int y4), (5, .int y5)] → PX2_word_b47 v_t s1 K18 post y2 y3 y4 y5 v_r → W p l e rmX2_word s m args below meth c H locs 0 0 (kn_Qi D tc w0 (fun (u : OV) => [(kReader, ad_r, u), (kTin, ad_t, v_t)]) (fun (r : Int32) (u : OV) => post r u) below args s 0 0) (F0 m 47 ls []) := by
  obtain ⟨S0, hr, hlocks, hK, hZ, hA⟩ := id X
  obtain ⟨hx, hb, hml, hown, hts⟩ := id S0
  intro H locs ls y2 y3 y4 y5 v_r I hl h
  unfold PX2_word_b47 at h
  refine lv_iload_n hx hb (kn_dec tX2_word 25 rfl) rfl (lv_at hl 2 rfl) ?_
  refine lv_if_le (tgt := 73) hx hb (kn_dec tX2_word 26 rfl) (by decide) (fun c1 => ?_) (fun c1 => ?_)
  · have h := h.1 c1
    exact wX2_word_b73 X e_r_0 hK18 _ _ _ _ _ _ _  I (lv_sub hl [0, 1, 2, 3, 5] rfl) h
  · have h := h.2 c1
    refine lv_iload hx hb (kn_dec tX2_word 27 rfl) (lv_at hl 5 rfl) ?_
    refine lv_iload hx hb (kn_dec tX2_word 28 rfl) (lv_at hl 4 rfl) ?_
    refine lv_isub hx hb (kn_dec tX2_word 29 rfl) ?_
    refine lv_iload_n hx hb (kn_dec tX2_word 30 rfl) rfl (lv_at hl 2 rfl) ?_
    refine lv_icmp_ne (tgt := 73) hx hb (kn_dec tX2_word 31 rfl) (by decide) (fun c2 => ?_) (fun c2 => ?_)
    · have h := h.1 c2
      exact wX2_word_b73 X e_r_0 hK18 _ _ _ _ _ _ _  I (lv_sub hl [0, 1, 2, 3, 5] rfl) h
    · have h := h.2 c2
      refine lv_aload_n hx hb (kn_dec tX2_word 32 rfl) rfl (lv_at hl 0 rfl) ?_
      refine lv_aload_n hx hb (kn_dec tX2_word 33 rfl) rfl (lv_at hl 1 rfl) ?_
      refine lv_iload hx hb (kn_dec tX2_word 34 rfl) (lv_at hl 4 rfl) ?_
      refine lv_iload_n hx hb (kn_dec tX2_word 35 rfl) rfl (lv_at hl 2 rfl) ?_
      refine kw_calli (wc := [(kReader, ad_r, _), (kTin, ad_t, _)]) (wr := []) I hA [0, 1] [] rfl rfl (by decide) (by decide) (kn_runV (As := [.ref (Z.1 s1), .int _, .int _]) S0 hK hZ hA I ((ctX2_isSame e_r_0 h).met _) (kn_cwV 3 hts q2_230 q2_232 q0_2 q1_3 q2_233 rfl rfl (by decide +kernel) ⟨(Nat.le_of_ble_eq_true rfl), (Nat.le_of_ble_eq_true rfl)⟩) [0, 1] rfl (by decide) 0 rfl rfl rfl rfl hl.1 rfl (Nat.le_of_ble_eq_true rfl) (kn_dec tX2_word 36 rfl) ⟨(Nat.le_of_ble_eq_true rfl), (Nat.le_of_ble_eq_true rfl)⟩) (fun r3 u4 H locs h I => ?_)
      obtain ⟨hz_r3, h⟩ := h
      have I : kn_I D tc (kn_A w0 s.heap.size) s.heap [(kReader, ad_r, _), (kTin, ad_t, _)] _ _ := I
      refine lv_if_eq (tgt := 73) hx hb (kn_dec tX2_word 37 rfl) (by decide) (fun c5 => ?_) (fun c5 => ?_)
      · have h := h.1 c5
        exact wX2_word_b73 X e_r_0 hK18 _ _ _ _ _ _ _  I (lv_sub hl [0, 1, 2, 3, 5] rfl) h
      · have h := h.2 c5
        refine lv_iload_n hx hb (kn_dec tX2_word 38 rfl) rfl (lv_at hl 3 rfl) ?_
        exact kw_iret hx hb hr hlocks I _ rfl h (kn_dec tX2_word 39 rfl)
def PX2_word_L18 (v_t : OV) (s1 : Nat)  (post : Int32 → OV → Prop) : Nat → Int32 → Int32 → Int32 → Int32 → OV → Prop
  | 0, _, _, _, _, _ => False
  | n + 1, y2, y3, y4, y5, v_r => (s1 < 30 ∧ (PJ0_length_8abf5 s1 (fun r1 => ((r1 < y5 → post ((-1 : Int32)) v_r) ∧ (¬ r1 < y5 → (s1 < 30 ∧ (PJ0_length_8abf5 s1 (fun r5 => ((y5 = r5 → PX2_word_b47 v_t s1 (PX2_word_L18 v_t s1 post n) post y2 y3 y4 y5 v_r) ∧ (¬ y5 = r5 → (s1 < 30 ∧ (PJ0_charAt_5068e s1 y5 (fun r9 => ((¬ r9 = ((32 : Int32)) → (∀ x13 : Int32, x13 = y5 + (1 : Int32) → PX2_word_L18 v_t s1 post n y2 y3 y4 x13 v_r)) ∧ (r9 = ((32 : Int32)) → PX2_word_b47 v_t s1 (PX2_word_L18 v_t s1 post n) post y2 y3 y4 y5 v_r)))))))))))))))
set_option maxRecDepth 100000 in
set_option maxHeartbeats 1000000 in
theorem wX2_word_L18 {v_t : OV} {s1 : Nat}  {post : Int32 → OV → Prop} {ad_r : Nat → Nat} {ad_t : Nat → Nat} (X : kn_X p s m args meth c cX2_word 6 (some .int) RX2 kn_all D tc Z (kn_A w0 s.heap.size)) (e_r_0 : ad_r (0 + 1) = ad_t (0 + 1))   : ∀ n : Nat, ∀ (H : Heap) (locs : List Loc) (ls : Array Slot) (y2 : Int32) (y3 : Int32) (y4 : Int32) (y5 : Int32) (v_r : OV), kn_I D tc (kn_A w0 s.heap.size) s.heap [(kReader, ad_r, v_r), (kTin, ad_t, v_t)] H locs → lv_has ls 6 [(0, .ref (ad_r 0)), (1, .ref (Z.1 s1)), (2, .int y2), (3, .int y3), (4, .int y4), (5, .int y5)] → PX2_word_L18 v_t s1 post n y2 y3 y4 y5 v_r → W p l e rmX2_word s m args below meth c H locs 0 0 (kn_Qi D tc w0 (fun (u : OV) => [(kReader, ad_r, u), (kTin, ad_t, v_t)]) (fun (r : Int32) (u : OV) => post r u) below args s 0 0) (F0 m 18 ls []) := by
  obtain ⟨S0, hr, hlocks, hK, hZ, hA⟩ := id X
  obtain ⟨hx, hb, hml, hown, hts⟩ := id S0
  intro n
  induction n with
  | zero =>
    intro H locs ls y2 y3 y4 y5 v_r I hl h
    unfold PX2_word_L18 at h
    exact h.elim
  | succ n ih =>
    intro H locs ls y2 y3 y4 y5 v_r I hl h
    unfold PX2_word_L18 at h
    refine lv_iload hx hb (kn_dec tX2_word 12 rfl) (lv_at hl 5 rfl) ?_
    refine lv_aload_n hx hb (kn_dec tX2_word 13 rfl) rfl (lv_at hl 1 rfl) ?_
    obtain ⟨hs2, h⟩ := h
    refine kw_calli (wc := []) (wr := [(kReader, ad_r, _), (kTin, ad_t, _)]) I hA [] [0, 1] rfl rfl (by decide) (by decide) (kn_runVR (As := []) S0 hK hZ hA I ((ctJ0_length_8abf5 h).met _) (kn_cwV 0 hts q2_182 q2_183 q2_184 q1_12 q2_185 rfl rfl (by decide +kernel) ⟨(Nat.le_of_ble_eq_true rfl), (Nat.le_of_ble_eq_true rfl)⟩) [] rfl (by decide) (vk_recv (kn_zs hZ hs2) (i := 0) (by decide) I.2.2) rfl hl.1 rfl (Nat.le_of_ble_eq_true rfl) (kn_dec tX2_word 14 rfl) ⟨(Nat.le_of_ble_eq_true rfl), (Nat.le_of_ble_eq_true rfl)⟩) (fun r1 u3 H locs h I => ?_)
    have I : kn_I D tc (kn_A w0 s.heap.size) s.heap [(kReader, ad_r, _), (kTin, ad_t, _)] _ _ := I
    refine lv_icmp_gt (tgt := 88) hx hb (kn_dec tX2_word 15 rfl) (by decide) (fun c4 => ?_) (fun c4 => ?_)
    · have h := h.1 c4
      refine lv_iconst (v := (-1)) hx hb (kn_dec tX2_word 47 rfl) (by decide) ?_
      exact kw_iret hx hb hr hlocks I _ rfl h (kn_dec tX2_word 48 rfl)
    · have h := h.2 c4
      refine lv_iload hx hb (kn_dec tX2_word 16 rfl) (lv_at hl 5 rfl) ?_
      refine lv_aload_n hx hb (kn_dec tX2_word 17 rfl) rfl (lv_at hl 1 rfl) ?_
      obtain ⟨hs6, h⟩ := h
      refine kw_calli (wc := []) (wr := [(kReader, ad_r, _), (kTin, ad_t, _)]) I hA [] [0, 1] rfl rfl (by decide) (by decide) (kn_runVR (As := []) S0 hK hZ hA I ((ctJ0_length_8abf5 h).met _) (kn_cwV 0 hts q2_182 q2_183 q2_184 q1_12 q2_185 rfl rfl (by decide +kernel) ⟨(Nat.le_of_ble_eq_true rfl), (Nat.le_of_ble_eq_true rfl)⟩) [] rfl (by decide) (vk_recv (kn_zs hZ hs6) (i := 0) (by decide) I.2.2) rfl hl.1 rfl (Nat.le_of_ble_eq_true rfl) (kn_dec tX2_word 18 rfl) ⟨(Nat.le_of_ble_eq_true rfl), (Nat.le_of_ble_eq_true rfl)⟩) (fun r5 u7 H locs h I => ?_)
      have I : kn_I D tc (kn_A w0 s.heap.size) s.heap [(kReader, ad_r, _), (kTin, ad_t, _)] _ _ := I
      refine lv_icmp_eq (tgt := 47) hx hb (kn_dec tX2_word 19 rfl) (by decide) (fun c8 => ?_) (fun c8 => ?_)
      · have h := h.1 c8
        exact wX2_word_b47 X e_r_0 ih _ _ _ _ _ _ _ _  I (lv_sub hl [0, 1, 2, 3, 4, 5] rfl) h
      · have h := h.2 c8
        refine lv_aload_n hx hb (kn_dec tX2_word 20 rfl) rfl (lv_at hl 1 rfl) ?_
        refine lv_iload hx hb (kn_dec tX2_word 21 rfl) (lv_at hl 5 rfl) ?_
        obtain ⟨hs10, h⟩ := h
        refine kw_calli (wc := []) (wr := [(kReader, ad_r, _), (kTin, ad_t, _)]) I hA [] [0, 1] rfl rfl (by decide) (by decide) (kn_runVR (As := [.int _]) S0 hK hZ hA I ((ctJ0_charAt_5068e h).met _) (kn_cwV 1 hts q2_192 q2_193 q2_194 q1_12 q2_195 rfl rfl (by decide +kernel) ⟨(Nat.le_of_ble_eq_true rfl), (Nat.le_of_ble_eq_true rfl)⟩) [] rfl (by decide) (vk_recv (kn_zs hZ hs10) (i := 0) (by decide) I.2.2) rfl hl.1 rfl (Nat.le_of_ble_eq_true rfl) (kn_dec tX2_word 22 rfl) ⟨(Nat.le_of_ble_eq_true rfl), (Nat.le_of_ble_eq_true rfl)⟩) (fun r9 u11 H locs h I => ?_)
        obtain ⟨hc_r9, h⟩ := h
        have I : kn_I D tc (kn_A w0 s.heap.size) s.heap [(kReader, ad_r, _), (kTin, ad_t, _)] _ _ := I
        refine lv_bipush (v := (32)) hx hb (kn_dec tX2_word 23 rfl) (by decide) ?_
        refine lv_icmp_ne (tgt := 82) hx hb (kn_dec tX2_word 24 rfl) (by decide) (fun c12 => ?_) (fun c12 => ?_)
        · have h := h.1 c12
          refine kw_iinc (lvf := fun y => [(5, .int y), (0, .ref (ad_r 0)), (1, .ref (Z.1 s1)), (2, .int _), (3, .int _), (4, .int _)]) (nv := (1)) hx hb (kn_dec tX2_word 45 rfl) hl (k := 5) rfl (by decide) (by decide) (fun _ => rfl) (fun x13 ex13 ls hl => ?_)
          have h := h x13 ex13
          refine lv_goto (tgt := 18) hx hb (kn_dec tX2_word 46 rfl) (by decide) ?_
          exact ih _ _ _ _ _ _ _ _  I (lv_sub hl [1, 2, 3, 4, 5, 0] rfl) h
        · have h := h.2 c12
          exact wX2_word_b47 X e_r_0 ih _ _ _ _ _ _ _ _  I (lv_sub hl [0, 1, 2, 3, 4, 5] rfl) h
def PX2_word  (v_r : OV) (v_t : OV) (s1 : Nat) (post : Int32 → OV → Prop) : Prop := (PX2_next v_r v_t (fun r2 v_r1 => (PX2_wordSize v_r1 v_t (fun r4 => (∃ n6 : Nat, PX2_word_L18 v_t s1 post n6 r4 ((0 : Int32)) ((0 : Int32)) ((0 : Int32)) v_r1)))))
set_option maxRecDepth 100000 in
set_option maxHeartbeats 1000000 in
theorem ctX2_word {l : Launch} {D : va_G} {tc : Nat → ClassId} {Z : (Nat → Nat) × (Nat → Nat)}  {ad_r : Nat → Nat} {ad_t : Nat → Nat} {v_r : OV} {v_t : OV} {s1 : Nat} (e_r_0 : ad_r (0 + 1) = ad_t (0 + 1))   {post : Int32 → OV → Prop} (h : PX2_word  v_r v_t s1 post) : CTi l D tc Z yX2_word (Cond.code yX2_word cX2_word 6 (some .int) :: kn_all) rmX2_word 0 0 [.ref (ad_r 0), .ref (Z.1 s1)] [(kReader, ad_r, v_r), (kTin, ad_t, v_t)] (fun (u : OV) => [(kReader, ad_r, u), (kTin, ad_t, v_t)]) (fun (r : Int32) (u : OV) => post r u) := by
  refine kn_ofi (cc := cX2_word) (nL := 6) (ret := (some .int)) (lv := [(0, .ref (ad_r 0)), (1, .ref (Z.1 s1))]) (by decide) (Nat.le_of_ble_eq_true rfl) rfl (fun p e s m below meth c ls X I hl _ => ?_)
  obtain ⟨S0, hr, hlocks, hK, hZ, hA⟩ := id X
  obtain ⟨hx, hb, hml, hown, hts⟩ := id S0
  unfold PX2_word at h
  refine lv_aload_n hx hb (kn_dec tX2_word 0 rfl) rfl (lv_at hl 0 rfl) ?_
  refine kw_calli (wc := [(kReader, ad_r, _), (kTin, ad_t, _)]) (wr := []) I hA [0, 1] [] rfl rfl (by decide) (by decide) (kn_runV (As := []) S0 hK hZ hA I ((ctX2_next e_r_0 h).met _) (kn_cwV 0 hts q2_174 q2_175 q2_176 q1_3 q2_177 rfl rfl (by decide +kernel) ⟨(Nat.le_of_ble_eq_true rfl), (Nat.le_of_ble_eq_true rfl)⟩) [0, 1] rfl (by decide) 0 rfl rfl rfl rfl hl.1 rfl (Nat.le_of_ble_eq_true rfl) (kn_dec tX2_word 1 rfl) ⟨(Nat.le_of_ble_eq_true rfl), (Nat.le_of_ble_eq_true rfl)⟩) (fun r2 u3 H locs h I => ?_)
  have I : kn_I D tc (kn_A _ s.heap.size) s.heap [(kReader, ad_r, _), (kTin, ad_t, _)] _ _ := I
  refine lv_pop hx hb (kn_dec tX2_word 2 rfl) rfl ?_
  refine lv_aload_n hx hb (kn_dec tX2_word 3 rfl) rfl (lv_at hl 0 rfl) ?_
  refine kw_calli (wc := [(kReader, ad_r, _), (kTin, ad_t, _)]) (wr := []) I hA [0, 1] [] rfl rfl (by decide) (by decide) (kn_runV (As := []) S0 hK hZ hA I ((ctX2_wordSize e_r_0 h).met _) (kn_cwV 0 hts q2_178 q2_179 q2_180 q1_3 q2_181 rfl rfl (by decide +kernel) ⟨(Nat.le_of_ble_eq_true rfl), (Nat.le_of_ble_eq_true rfl)⟩) [0, 1] rfl (by decide) 0 rfl rfl rfl rfl hl.1 rfl (Nat.le_of_ble_eq_true rfl) (kn_dec tX2_word 4 rfl) ⟨(Nat.le_of_ble_eq_true rfl), (Nat.le_of_ble_eq_true rfl)⟩) (fun r4 u5 H locs h I => ?_)
  have I : kn_I D tc (kn_A _ s.heap.size) s.heap [(kReader, ad_r, _), (kTin, ad_t, _)] _ _ := I
  refine lv_istore_n (lv' := [(2, .int _), (0, .ref (ad_r 0)), (1, .ref (Z.1 s1))]) hx hb (kn_dec tX2_word 5 rfl) rfl hl (by decide) rfl (fun ls hl => ?_)
  refine lv_iconst (v := (0)) hx hb (kn_dec tX2_word 6 rfl) (by decide) ?_
  refine lv_istore_n (lv' := [(3, .int _), (2, .int _), (0, .ref (ad_r 0)), (1, .ref (Z.1 s1))]) hx hb (kn_dec tX2_word 7 rfl) rfl hl (by decide) rfl (fun ls hl => ?_)
  refine lv_iconst (v := (0)) hx hb (kn_dec tX2_word 8 rfl) (by decide) ?_
  refine lv_istore (lv' := [(4, .int _), (3, .int _), (2, .int _), (0, .ref (ad_r 0)), (1, .ref (Z.1 s1))]) hx hb (kn_dec tX2_word 9 rfl) hl (by decide) rfl (fun ls hl => ?_)
  refine lv_iconst (v := (0)) hx hb (kn_dec tX2_word 10 rfl) (by decide) ?_
  refine lv_istore (lv' := [(5, .int _), (4, .int _), (3, .int _), (2, .int _), (0, .ref (ad_r 0)), (1, .ref (Z.1 s1))]) hx hb (kn_dec tX2_word 11 rfl) hl (by decide) rfl (fun ls hl => ?_)
  obtain ⟨n6, h⟩ := h
  exact wX2_word_L18 X e_r_0 n6 _ _ _ _ _ _ _ _  I (lv_sub hl [4, 5, 3, 2, 1, 0] rfl) h

/-! X2_takeWord -/
abbrev rmX2_takeWord : Room := { frames := 6, cells := 0, slots := 0, locals := 134 }
def PX2_takeWord_b13 (v_t : OV) (s1 : Nat)  (post : Int32 → OV → Prop) (t0 : Int32) (v_r : OV) : Prop := ((t0 = ((0 : Int32)) → post t0 v_r) ∧ (¬ t0 = ((0 : Int32)) → (s1 < 30 ∧ (PJ0_length_8abf5 s1 (fun r2 => (PX2_pass v_r v_t r2 (fun v_r5 => post t0 v_r5)))))))
set_option maxRecDepth 100000 in
set_option maxHeartbeats 1000000 in
theorem wX2_takeWord_b13 {v_t : OV} {s1 : Nat}  {post : Int32 → OV → Prop} {ad_r : Nat → Nat} {ad_t : Nat → Nat} (X : kn_X p s m args meth c cX2_takeWord 3 (some .boolean) RX2 kn_all D tc Z (kn_A w0 s.heap.size)) (e_r_0 : ad_r (0 + 1) = ad_t (0 + 1))   : ∀ (H : Heap) (locs : List Loc) (ls : Array Slot) (t0 : Int32) (v_r : OV), (hz_t0 : t0 = 0 ∨ t0 = 1) → kn_I D tc (kn_A w0 s.heap.size) s.heap [(kReader, ad_r, v_r), (kTin, ad_t, v_t)] H locs → lv_has ls 3 [(0, .ref (ad_r 0)), (1, .ref (Z.1 s1))] → PX2_takeWord_b13 v_t s1 post t0 v_r → W p l e rmX2_takeWord s m args below meth c H locs 0 0 (kn_Qi D tc w0 (fun (u : OV) => [(kReader, ad_r, u), (kTin, ad_t, v_t)]) (fun (r : Int32) (u : OV) => (r = 0 ∨ r = 1) ∧ post r u) below args s 0 0) (F0 m 13 ls [.int t0]) := by
  obtain ⟨S0, hr, hlocks, hK, hZ, hA⟩ := id X
  obtain ⟨hx, hb, hml, hown, hts⟩ := id S0
  intro H locs ls t0 v_r hz_t0 I hl h
  unfold PX2_takeWord_b13 at h
  refine lv_istore_n (lv' := [(2, .int _), (0, .ref (ad_r 0)), (1, .ref (Z.1 s1))]) hx hb (kn_dec tX2_takeWord 7 rfl) rfl hl (by decide) rfl (fun ls hl => ?_)
  refine lv_iload_n hx hb (kn_dec tX2_takeWord 8 rfl) rfl (lv_at hl 0 rfl) ?_
  refine lv_if_eq (tgt := 26) hx hb (kn_dec tX2_takeWord 9 rfl) (by decide) (fun c1 => ?_) (fun c1 => ?_)
  · have h := h.1 c1
    refine lv_iload_n hx hb (kn_dec tX2_takeWord 14 rfl) rfl (lv_at hl 0 rfl) ?_
    exact kw_zret hx hb hr (kn_nz hz_t0) hlocks I _ rfl ⟨hz_t0, h⟩ (kn_dec tX2_takeWord 15 rfl)
  · have h := h.2 c1
    refine lv_aload_n hx hb (kn_dec tX2_takeWord 10 rfl) rfl (lv_at hl 1 rfl) ?_
    refine lv_aload_n hx hb (kn_dec tX2_takeWord 11 rfl) rfl (lv_at hl 2 rfl) ?_
    obtain ⟨hs3, h⟩ := h
    refine kw_calli (wc := []) (wr := [(kReader, ad_r, _), (kTin, ad_t, _)]) I hA [] [0, 1] rfl rfl (by decide) (by decide) (kn_runVR (As := []) S0 hK hZ hA I ((ctJ0_length_8abf5 h).met _) (kn_cwV 0 hts q2_182 q2_183 q2_184 q1_12 q2_185 rfl rfl (by decide +kernel) ⟨(Nat.le_of_ble_eq_true rfl), (Nat.le_of_ble_eq_true rfl)⟩) [] rfl (by decide) (vk_recv (kn_zs hZ hs3) (i := 0) (by decide) I.2.2) rfl hl.1 rfl (Nat.le_of_ble_eq_true rfl) (kn_dec tX2_takeWord 12 rfl) ⟨(Nat.le_of_ble_eq_true rfl), (Nat.le_of_ble_eq_true rfl)⟩) (fun r2 u4 H locs h I => ?_)
    have I : kn_I D tc (kn_A w0 s.heap.size) s.heap [(kReader, ad_r, _), (kTin, ad_t, _)] _ _ := I
    refine kw_callv (wc := [(kReader, ad_r, _), (kTin, ad_t, _)]) (wr := []) I hA [0, 1] [] rfl rfl (by decide) (by decide) (kn_runV (As := [.int _]) S0 hK hZ hA I ((ctX2_pass e_r_0 h).met _) (kn_cwV 1 hts q3_30 q3_3 q3_4 q1_3 q3_5 rfl rfl (by decide +kernel) ⟨(Nat.le_of_ble_eq_true rfl), (Nat.le_of_ble_eq_true rfl)⟩) [0, 1] rfl (by decide) 0 rfl rfl rfl rfl hl.1 rfl (Nat.le_of_ble_eq_true rfl) (kn_dec tX2_takeWord 13 rfl) ⟨(Nat.le_of_ble_eq_true rfl), (Nat.le_of_ble_eq_true rfl)⟩) (fun u6 H locs h I => ?_)
    have I : kn_I D tc (kn_A w0 s.heap.size) s.heap [(kReader, ad_r, _), (kTin, ad_t, _)] _ _ := I
    refine lv_iload_n hx hb (kn_dec tX2_takeWord 14 rfl) rfl (lv_at hl 0 rfl) ?_
    exact kw_zret hx hb hr (kn_nz hz_t0) hlocks I _ rfl ⟨hz_t0, h⟩ (kn_dec tX2_takeWord 15 rfl)
def PX2_takeWord  (v_r : OV) (v_t : OV) (s1 : Nat) (post : Int32 → OV → Prop) : Prop := (PX2_word v_r v_t s1 (fun r2 v_r1 => ((¬ r2 = ((0 : Int32)) → PX2_takeWord_b13 v_t s1 post ((0 : Int32)) v_r1) ∧ (r2 = ((0 : Int32)) → PX2_takeWord_b13 v_t s1 post ((1 : Int32)) v_r1))))
set_option maxRecDepth 100000 in
set_option maxHeartbeats 1000000 in
theorem ctX2_takeWord {l : Launch} {D : va_G} {tc : Nat → ClassId} {Z : (Nat → Nat) × (Nat → Nat)}  {ad_r : Nat → Nat} {ad_t : Nat → Nat} {v_r : OV} {v_t : OV} {s1 : Nat} (e_r_0 : ad_r (0 + 1) = ad_t (0 + 1))   {post : Int32 → OV → Prop} (h : PX2_takeWord  v_r v_t s1 post) : CTi l D tc Z yX2_takeWord (Cond.code yX2_takeWord cX2_takeWord 3 (some .boolean) :: kn_all) rmX2_takeWord 0 0 [.ref (ad_r 0), .ref (Z.1 s1)] [(kReader, ad_r, v_r), (kTin, ad_t, v_t)] (fun (u : OV) => [(kReader, ad_r, u), (kTin, ad_t, v_t)]) (fun (r : Int32) (u : OV) => (r = 0 ∨ r = 1) ∧ post r u) := by
  refine kn_ofi (cc := cX2_takeWord) (nL := 3) (ret := (some .boolean)) (lv := [(0, .ref (ad_r 0)), (1, .ref (Z.1 s1))]) (by decide) (Nat.le_of_ble_eq_true rfl) rfl (fun p e s m below meth c ls X I hl _ => ?_)
  obtain ⟨S0, hr, hlocks, hK, hZ, hA⟩ := id X
  obtain ⟨hx, hb, hml, hown, hts⟩ := id S0
  unfold PX2_takeWord at h
  refine lv_aload_n hx hb (kn_dec tX2_takeWord 0 rfl) rfl (lv_at hl 0 rfl) ?_
  refine lv_aload_n hx hb (kn_dec tX2_takeWord 1 rfl) rfl (lv_at hl 1 rfl) ?_
  refine kw_calli (wc := [(kReader, ad_r, _), (kTin, ad_t, _)]) (wr := []) I hA [0, 1] [] rfl rfl (by decide) (by decide) (kn_runV (As := [.ref (Z.1 s1)]) S0 hK hZ hA I ((ctX2_word e_r_0 h).met _) (kn_cwV 1 hts q3_67 q2_171 q2_172 q1_3 q2_173 rfl rfl (by decide +kernel) ⟨(Nat.le_of_ble_eq_true rfl), (Nat.le_of_ble_eq_true rfl)⟩) [0, 1] rfl (by decide) 0 rfl rfl rfl rfl hl.1 rfl (Nat.le_of_ble_eq_true rfl) (kn_dec tX2_takeWord 2 rfl) ⟨(Nat.le_of_ble_eq_true rfl), (Nat.le_of_ble_eq_true rfl)⟩) (fun r2 u3 H locs h I => ?_)
  have I : kn_I D tc (kn_A _ s.heap.size) s.heap [(kReader, ad_r, _), (kTin, ad_t, _)] _ _ := I
  refine lv_if_ne (tgt := 12) hx hb (kn_dec tX2_takeWord 3 rfl) (by decide) (fun c4 => ?_) (fun c4 => ?_)
  · have h := h.1 c4
    refine lv_iconst (v := (0)) hx hb (kn_dec tX2_takeWord 6 rfl) (by decide) ?_
    exact wX2_takeWord_b13 X e_r_0 _ _ _ _ _ (Or.inl rfl) I (lv_sub hl [0, 1] rfl) h
  · have h := h.2 c4
    refine lv_iconst (v := (1)) hx hb (kn_dec tX2_takeWord 4 rfl) (by decide) ?_
    refine lv_goto (tgt := 13) hx hb (kn_dec tX2_takeWord 5 rfl) (by decide) ?_
    exact wX2_takeWord_b13 X e_r_0 _ _ _ _ _ (Or.inr rfl) I (lv_sub hl [0, 1] rfl) h

end
