section
variable {p : Program} {l : Launch} {e : Env} {s : State} {m : MethodId} {args : Array Value} {below : List Frame} {meth : Method} {c : Code} {D : va_G} {tc : Nat → ClassId} {Z : (Nat → Nat) × (Nat → Nat)} {w0 : List CH}

/-! X9_top -/
abbrev rmX9_top : Room := { frames := 0, cells := 0, slots := 0, locals := 0 }
def PX9_top  (v_m : OV) (post : Int32 → Prop) : Prop := ((¬ (v_m.1 38) = ((0 : Int32)) → (vp_in ((v_m.1 38) - ((1 : Int32))) 402 ∧ post (v_m.2.1 47 ((v_m.1 38) - ((1 : Int32))).toNatClampNeg))) ∧ ((v_m.1 38) = ((0 : Int32)) → post ((-1 : Int32))))
set_option maxRecDepth 100000 in
set_option maxHeartbeats 1000000 in
theorem ctX9_top {l : Launch} {D : va_G} {tc : Nat → ClassId} {Z : (Nat → Nat) × (Nat → Nat)}  {ad_m : Nat → Nat} {v_m : OV}    {post : Int32 → Prop} (h : PX9_top  v_m post) : CTi l D tc Z yX9_top (Cond.code yX9_top cX9_top 1 (some .int) :: kn_all) rmX9_top 0 0 [.ref (ad_m 0)] [(kModel, ad_m, v_m)] (fun (u : Unit) => [(kModel, ad_m, v_m)]) (fun (r : Int32) (u : Unit) => post r) := by
  refine kn_ofi (cc := cX9_top) (nL := 1) (ret := (some .int)) (lv := [(0, .ref (ad_m 0))]) (by decide) (Nat.le_of_ble_eq_true rfl) rfl (fun p e s m below meth c ls X I hl _ => ?_)
  obtain ⟨S0, hr, hlocks, hK, hZ, hA⟩ := id X
  obtain ⟨hx, hb, hml, hown, hts⟩ := id S0
  unfold PX9_top at h
  refine lv_aload_n hx hb (kn_dec tX9_top 0 rfl) rfl (lv_at hl 0 rfl) ?_
  refine kw_geti hx hb hts inX9 hown hK I 0 rfl rfl 38 (by decide) rfl (hts _ q4_238) (kn_dec tX9_top 1 rfl) ?_
  refine lv_if_ne (tgt := 11) hx hb (kn_dec tX9_top 2 rfl) (by decide) (fun c1 => ?_) (fun c1 => ?_)
  · have h := h.1 c1
    refine lv_aload_n hx hb (kn_dec tX9_top 5 rfl) rfl (lv_at hl 0 rfl) ?_
    refine kw_getl hx hb hts inX9 hown hK I 0 rfl rfl 47 (by decide) rfl (hts _ q5_7) (kn_dec tX9_top 6 rfl) rfl ?_
    refine lv_aload_n hx hb (kn_dec tX9_top 7 rfl) rfl (lv_at hl 0 rfl) ?_
    refine kw_geti hx hb hts inX9 hown hK I 0 rfl rfl 38 (by decide) rfl (hts _ q4_238) (kn_dec tX9_top 8 rfl) ?_
    refine lv_iconst (v := (1)) hx hb (kn_dec tX9_top 9 rfl) (by decide) ?_
    refine lv_isub hx hb (kn_dec tX9_top 10 rfl) ?_
    obtain ⟨hs2, h⟩ := h
    refine kw_iald hx hb hK I 0 rfl 47 402 (List.mem_of_getElem? (i := 36) rfl) hs2 (kn_dec tX9_top 11 rfl) ?_
    exact kw_iret hx hb hr hlocks I () rfl h (kn_dec tX9_top 12 rfl)
  · have h := h.2 c1
    refine lv_iconst (v := (-1)) hx hb (kn_dec tX9_top 3 rfl) (by decide) ?_
    refine lv_goto (tgt := 22) hx hb (kn_dec tX9_top 4 rfl) (by decide) ?_
    exact kw_iret hx hb hr hlocks I () rfl h (kn_dec tX9_top 12 rfl)

/-! X9_opens -/
abbrev rmX9_opens : Room := { frames := 1, cells := 0, slots := 0, locals := 22 }
def PX9_opens_b40   (post : OV → Prop) (y1 : Int32) (v_m : OV) : Prop := (vp_in (v_m.1 38) 402 ∧ (∀ v_m2 : OV, v_m2 = sa v_m 47 (upd (v_m.2.1 47) (v_m.1 38).toNatClampNeg y1) → (∀ x3 : Int32, x3 = ((v_m2.1 38) + ((1 : Int32))) → (∀ v_m4 : OV, v_m4 = si v_m2 38 x3 → post v_m4))))
set_option maxRecDepth 100000 in
set_option maxHeartbeats 1000000 in
theorem wX9_opens_b40   {post : OV → Prop} {ad_m : Nat → Nat} (X : kn_X p s m args meth c cX9_opens 2 none RX9 kn_all D tc Z (kn_A w0 s.heap.size))    : ∀ (H : Heap) (locs : List Loc) (ls : Array Slot) (y1 : Int32) (v_m : OV), kn_I D tc (kn_A w0 s.heap.size) s.heap [(kModel, ad_m, v_m)] H locs → lv_has ls 2 [(0, .ref (ad_m 0)), (1, .int y1)] → PX9_opens_b40 post y1 v_m → W p l e rmX9_opens s m args below meth c H locs 0 0 (kn_Qv D tc w0 (fun (u : OV) => [(kModel, ad_m, u)]) (fun (u : OV) => post u) below args s 0 0) (F0 m 40 ls []) := by
  obtain ⟨S0, hr, hlocks, hK, hZ, hA⟩ := id X
  obtain ⟨hx, hb, hml, hown, hts⟩ := id S0
  intro H locs ls y1 v_m I hl h
  unfold PX9_opens_b40 at h
  refine lv_aload_n hx hb (kn_dec tX9_opens 21 rfl) rfl (lv_at hl 0 rfl) ?_
  refine kw_getl hx hb hts inX9 hown hK I 0 rfl rfl 47 (by decide) rfl (hts _ q5_7) (kn_dec tX9_opens 22 rfl) rfl ?_
  refine lv_aload_n hx hb (kn_dec tX9_opens 23 rfl) rfl (lv_at hl 0 rfl) ?_
  refine kw_geti hx hb hts inX9 hown hK I 0 rfl rfl 38 (by decide) rfl (hts _ q4_238) (kn_dec tX9_opens 24 rfl) ?_
  refine lv_iload_n hx hb (kn_dec tX9_opens 25 rfl) rfl (lv_at hl 1 rfl) ?_
  obtain ⟨hs1, h⟩ := h
  refine kw_iast hx hb hK I 0 rfl 47 402 (List.mem_of_getElem? (i := 36) rfl) ukModel_47 hs1 (kn_dec tX9_opens 26 rfl) (fun v_m2 ev_m2 H locs I => ?_)
  have h := h v_m2 ev_m2
  have I : kn_I D tc (kn_A w0 s.heap.size) s.heap [(kModel, ad_m, _)] _ _ := I
  refine lv_aload_n hx hb (kn_dec tX9_opens 27 rfl) rfl (lv_at hl 0 rfl) ?_
  refine lv_dup hx hb (kn_dec tX9_opens 28 rfl) rfl ?_
  refine kw_geti hx hb hts inX9 hown hK I 0 rfl rfl 38 (by decide) rfl (hts _ q4_238) (kn_dec tX9_opens 29 rfl) ?_
  refine lv_iconst (v := (1)) hx hb (kn_dec tX9_opens 30 rfl) (by decide) ?_
  refine lv_iadd hx hb (kn_dec tX9_opens 31 rfl) ?_
  refine lv_topi (fun x3 ex3 => ?_)
  have h := h x3 ex3
  refine kw_puti hx hb hts inX9 tyX9 tyX9_ok nmX9 hown hK I 0 rfl rfl 38 (by decide) rfl (hts _ q4_238) rfl rfl rfl (kn_dec tX9_opens 32 rfl) (fun v_m4 ev_m4 H locs I => ?_)
  have h := h v_m4 ev_m4
  have I : kn_I D tc (kn_A w0 s.heap.size) s.heap [(kModel, ad_m, _)] _ _ := I
  exact kw_vret hx hb hr hlocks I _ rfl h (kn_dec tX9_opens 33 rfl)
def PX9_opens_b30   (post : OV → Prop) (y1 : Int32) (v_m : OV) : Prop := (∀ x1 : Int32, x1 = ((v_m.1 36) + ((1 : Int32))) → (∀ v_m2 : OV, v_m2 = si v_m 36 x1 → PX9_opens_b40 post y1 v_m2))
set_option maxRecDepth 100000 in
set_option maxHeartbeats 1000000 in
theorem wX9_opens_b30   {post : OV → Prop} {ad_m : Nat → Nat} (X : kn_X p s m args meth c cX9_opens 2 none RX9 kn_all D tc Z (kn_A w0 s.heap.size))    : ∀ (H : Heap) (locs : List Loc) (ls : Array Slot) (y1 : Int32) (v_m : OV), kn_I D tc (kn_A w0 s.heap.size) s.heap [(kModel, ad_m, v_m)] H locs → lv_has ls 2 [(0, .ref (ad_m 0)), (1, .int y1)] → PX9_opens_b30 post y1 v_m → W p l e rmX9_opens s m args below meth c H locs 0 0 (kn_Qv D tc w0 (fun (u : OV) => [(kModel, ad_m, u)]) (fun (u : OV) => post u) below args s 0 0) (F0 m 30 ls []) := by
  obtain ⟨S0, hr, hlocks, hK, hZ, hA⟩ := id X
  obtain ⟨hx, hb, hml, hown, hts⟩ := id S0
  intro H locs ls y1 v_m I hl h
  unfold PX9_opens_b30 at h
  refine lv_aload_n hx hb (kn_dec tX9_opens 15 rfl) rfl (lv_at hl 0 rfl) ?_
  refine lv_dup hx hb (kn_dec tX9_opens 16 rfl) rfl ?_
  refine kw_geti hx hb hts inX9 hown hK I 0 rfl rfl 36 (by decide) rfl (hts _ q4_236) (kn_dec tX9_opens 17 rfl) ?_
  refine lv_iconst (v := (1)) hx hb (kn_dec tX9_opens 18 rfl) (by decide) ?_
  refine lv_iadd hx hb (kn_dec tX9_opens 19 rfl) ?_
  refine lv_topi (fun x1 ex1 => ?_)
  have h := h x1 ex1
  refine kw_puti hx hb hts inX9 tyX9 tyX9_ok nmX9 hown hK I 0 rfl rfl 36 (by decide) rfl (hts _ q4_236) rfl rfl rfl (kn_dec tX9_opens 20 rfl) (fun v_m2 ev_m2 H locs I => ?_)
  have h := h v_m2 ev_m2
  have I : kn_I D tc (kn_A w0 s.heap.size) s.heap [(kModel, ad_m, _)] _ _ := I
  exact wX9_opens_b40 X _ _ _ _ _  I (lv_sub hl [0, 1] rfl) h
def PX9_opens_b12   (post : OV → Prop) (y1 : Int32) (v_m : OV) : Prop := ((¬ (v_m.1 36) = ((10 : Int32)) → PX9_opens_b30 post y1 v_m) ∧ ((v_m.1 36) = ((10 : Int32)) → (PX9_fails v_m ((2 : Int32)) (v_m.1 31) (fun v_m2 => PX9_opens_b30 post y1 v_m2))))
set_option maxRecDepth 100000 in
set_option maxHeartbeats 1000000 in
theorem wX9_opens_b12   {post : OV → Prop} {ad_m : Nat → Nat} (X : kn_X p s m args meth c cX9_opens 2 none RX9 kn_all D tc Z (kn_A w0 s.heap.size))    : ∀ (H : Heap) (locs : List Loc) (ls : Array Slot) (y1 : Int32) (v_m : OV), kn_I D tc (kn_A w0 s.heap.size) s.heap [(kModel, ad_m, v_m)] H locs → lv_has ls 2 [(0, .ref (ad_m 0)), (1, .int y1)] → PX9_opens_b12 post y1 v_m → W p l e rmX9_opens s m args below meth c H locs 0 0 (kn_Qv D tc w0 (fun (u : OV) => [(kModel, ad_m, u)]) (fun (u : OV) => post u) below args s 0 0) (F0 m 12 ls []) := by
  obtain ⟨S0, hr, hlocks, hK, hZ, hA⟩ := id X
  obtain ⟨hx, hb, hml, hown, hts⟩ := id S0
  intro H locs ls y1 v_m I hl h
  unfold PX9_opens_b12 at h
  refine lv_aload_n hx hb (kn_dec tX9_opens 6 rfl) rfl (lv_at hl 0 rfl) ?_
  refine kw_geti hx hb hts inX9 hown hK I 0 rfl rfl 36 (by decide) rfl (hts _ q4_236) (kn_dec tX9_opens 7 rfl) ?_
  refine lv_bipush (v := (10)) hx hb (kn_dec tX9_opens 8 rfl) (by decide) ?_
  refine lv_icmp_ne (tgt := 30) hx hb (kn_dec tX9_opens 9 rfl) (by decide) (fun c1 => ?_) (fun c1 => ?_)
  · have h := h.1 c1
    exact wX9_opens_b30 X _ _ _ _ _  I (lv_sub hl [0, 1] rfl) h
  · have h := h.2 c1
    refine lv_aload_n hx hb (kn_dec tX9_opens 10 rfl) rfl (lv_at hl 0 rfl) ?_
    refine lv_iconst (v := (2)) hx hb (kn_dec tX9_opens 11 rfl) (by decide) ?_
    refine lv_aload_n hx hb (kn_dec tX9_opens 12 rfl) rfl (lv_at hl 0 rfl) ?_
    refine kw_geti hx hb hts inX9 hown hK I 0 rfl rfl 31 (by decide) rfl (hts _ q4_231) (kn_dec tX9_opens 13 rfl) ?_
    refine kw_callv (wc := [(kModel, ad_m, _)]) (wr := []) I hA [0] [] rfl rfl (by decide) (by decide) (kn_runV (As := [.int _, .int _]) S0 hK hZ hA I ((ctX9_fails h).met _) (kn_cwV 2 hts q5_214 q5_216 q0_36 q1_10 q5_217 rfl rfl (by decide +kernel) ⟨(Nat.le_of_ble_eq_true rfl), (Nat.le_of_ble_eq_true rfl)⟩) [0] rfl (by decide) 0 rfl rfl rfl rfl hl.1 rfl (Nat.le_of_ble_eq_true rfl) (kn_dec tX9_opens 14 rfl) ⟨(Nat.le_of_ble_eq_true rfl), (Nat.le_of_ble_eq_true rfl)⟩) (fun u3 H locs h I => ?_)
    have I : kn_I D tc (kn_A w0 s.heap.size) s.heap [(kModel, ad_m, _)] _ _ := I
    exact wX9_opens_b30 X _ _ _ _ _  I (lv_sub hl [0, 1] rfl) h
def PX9_opens  (v_m : OV) (a1 : Int32) (post : OV → Prop) : Prop := ((a1 = ((9 : Int32)) → PX9_opens_b12 post a1 v_m) ∧ (¬ a1 = ((9 : Int32)) → ((¬ a1 = ((12 : Int32)) → PX9_opens_b40 post a1 v_m) ∧ (a1 = ((12 : Int32)) → PX9_opens_b12 post a1 v_m))))
set_option maxRecDepth 100000 in
set_option maxHeartbeats 1000000 in
theorem ctX9_opens {l : Launch} {D : va_G} {tc : Nat → ClassId} {Z : (Nat → Nat) × (Nat → Nat)}  {ad_m : Nat → Nat} {v_m : OV} {a1 : Int32}    {post : OV → Prop} (h : PX9_opens  v_m a1 post) : CTv l D tc Z yX9_opens (Cond.code yX9_opens cX9_opens 2 none :: kn_all) rmX9_opens 0 0 [.ref (ad_m 0), .int a1] [(kModel, ad_m, v_m)] (fun (u : OV) => [(kModel, ad_m, u)]) (fun (u : OV) => post u) := by
  refine kn_ofv (cc := cX9_opens) (nL := 2) (ret := none) (lv := [(0, .ref (ad_m 0)), (1, .int a1)]) (by decide) (Nat.le_of_ble_eq_true rfl) rfl (fun p e s m below meth c ls X I hl _ => ?_)
  obtain ⟨S0, hr, hlocks, hK, hZ, hA⟩ := id X
  obtain ⟨hx, hb, hml, hown, hts⟩ := id S0
  unfold PX9_opens at h
  refine lv_iload_n hx hb (kn_dec tX9_opens 0 rfl) rfl (lv_at hl 1 rfl) ?_
  refine lv_bipush (v := (9)) hx hb (kn_dec tX9_opens 1 rfl) (by decide) ?_
  refine lv_icmp_eq (tgt := 12) hx hb (kn_dec tX9_opens 2 rfl) (by decide) (fun c1 => ?_) (fun c1 => ?_)
  · have h := h.1 c1
    exact wX9_opens_b12 X _ _ _ _ _  I (lv_sub hl [0, 1] rfl) h
  · have h := h.2 c1
    refine lv_iload_n hx hb (kn_dec tX9_opens 3 rfl) rfl (lv_at hl 1 rfl) ?_
    refine lv_bipush (v := (12)) hx hb (kn_dec tX9_opens 4 rfl) (by decide) ?_
    refine lv_icmp_ne (tgt := 40) hx hb (kn_dec tX9_opens 5 rfl) (by decide) (fun c2 => ?_) (fun c2 => ?_)
    · have h := h.1 c2
      exact wX9_opens_b40 X _ _ _ _ _  I (lv_sub hl [0, 1] rfl) h
    · have h := h.2 c2
      exact wX9_opens_b12 X _ _ _ _ _  I (lv_sub hl [0, 1] rfl) h

/-! X9_answers -/
abbrev rmX9_answers : Room := { frames := 1, cells := 0, slots := 0, locals := 22 }
def PX9_answers_L0   (post : OV → Prop) : Nat → Int32 → OV → Prop
  | 0, _, _ => False
  | n + 1, y1, v_m => (PX9_top v_m (fun r1 => ((¬ r1 = y1 → post v_m) ∧ (r1 = y1 → ((¬ (v_m.1 32) = ((0 : Int32)) → post v_m) ∧ ((v_m.1 32) = ((0 : Int32)) → (PX9_entry v_m y1 ((0 : Int32)) (fun v_m5 => (∀ x7 : Int32, x7 = ((v_m5.1 38) - ((1 : Int32))) → (∀ v_m8 : OV, v_m8 = si v_m5 38 x7 → ((¬ y1 = ((9 : Int32)) → (∀ x10 : Int32, x10 = ((v_m8.1 36) - ((0 : Int32))) → (∀ v_m11 : OV, v_m11 = si v_m8 36 x10 → PX9_answers_L0 post n y1 v_m11))) ∧ (y1 = ((9 : Int32)) → (∀ x12 : Int32, x12 = ((v_m8.1 36) - ((1 : Int32))) → (∀ v_m13 : OV, v_m13 = si v_m8 36 x12 → PX9_answers_L0 post n y1 v_m13))))))))))))))
set_option maxRecDepth 100000 in
set_option maxHeartbeats 1000000 in
theorem wX9_answers_L0   {post : OV → Prop} {ad_m : Nat → Nat} (X : kn_X p s m args meth c cX9_answers 2 none RX9 kn_all D tc Z (kn_A w0 s.heap.size))    : ∀ n : Nat, ∀ (H : Heap) (locs : List Loc) (ls : Array Slot) (y1 : Int32) (v_m : OV), kn_I D tc (kn_A w0 s.heap.size) s.heap [(kModel, ad_m, v_m)] H locs → lv_has ls 2 [(0, .ref (ad_m 0)), (1, .int y1)] → PX9_answers_L0 post n y1 v_m → W p l e rmX9_answers s m args below meth c H locs 0 0 (kn_Qv D tc w0 (fun (u : OV) => [(kModel, ad_m, u)]) (fun (u : OV) => post u) below args s 0 0) (F0 m 0 ls []) := by
  obtain ⟨S0, hr, hlocks, hK, hZ, hA⟩ := id X
  obtain ⟨hx, hb, hml, hown, hts⟩ := id S0
  intro n
  induction n with
  | zero =>
    intro H locs ls y1 v_m I hl h
    unfold PX9_answers_L0 at h
    exact h.elim
  | succ n ih =>
    intro H locs ls y1 v_m I hl h
    unfold PX9_answers_L0 at h
    refine lv_aload_n hx hb (kn_dec tX9_answers 0 rfl) rfl (lv_at hl 0 rfl) ?_
    refine kw_calli (wc := [(kModel, ad_m, _)]) (wr := []) I hA [0] [] rfl rfl (by decide) (by decide) (kn_runV (As := []) S0 hK hZ hA I ((ctX9_top h).met _) (kn_cwV 0 hts q6_89 q6_91 q0_57 q1_10 q6_92 rfl rfl (by decide +kernel) ⟨(Nat.le_of_ble_eq_true rfl), (Nat.le_of_ble_eq_true rfl)⟩) [0] rfl (by decide) 0 rfl rfl rfl rfl hl.1 rfl (Nat.le_of_ble_eq_true rfl) (kn_dec tX9_answers 1 rfl) ⟨(Nat.le_of_ble_eq_true rfl), (Nat.le_of_ble_eq_true rfl)⟩) (fun r1 u2 H locs h I => ?_)
    have I : kn_I D tc (kn_A w0 s.heap.size) s.heap [(kModel, ad_m, _)] _ _ := I
    refine lv_iload_n hx hb (kn_dec tX9_answers 2 rfl) rfl (lv_at hl 1 rfl) ?_
    refine lv_icmp_ne (tgt := 54) hx hb (kn_dec tX9_answers 3 rfl) (by decide) (fun c3 => ?_) (fun c3 => ?_)
    · have h := h.1 c3
      exact kw_vret hx hb hr hlocks I _ rfl h (kn_dec tX9_answers 29 rfl)
    · have h := h.2 c3
      refine lv_aload_n hx hb (kn_dec tX9_answers 4 rfl) rfl (lv_at hl 0 rfl) ?_
      refine kw_geti hx hb hts inX9 hown hK I 0 rfl rfl 32 (by decide) rfl (hts _ q4_232) (kn_dec tX9_answers 5 rfl) ?_
      refine lv_if_ne (tgt := 54) hx hb (kn_dec tX9_answers 6 rfl) (by decide) (fun c4 => ?_) (fun c4 => ?_)
      · have h := h.1 c4
        exact kw_vret hx hb hr hlocks I _ rfl h (kn_dec tX9_answers 29 rfl)
      · have h := h.2 c4
        refine lv_aload_n hx hb (kn_dec tX9_answers 7 rfl) rfl (lv_at hl 0 rfl) ?_
        refine lv_iload_n hx hb (kn_dec tX9_answers 8 rfl) rfl (lv_at hl 1 rfl) ?_
        refine lv_iconst (v := (0)) hx hb (kn_dec tX9_answers 9 rfl) (by decide) ?_
        refine kw_callv (wc := [(kModel, ad_m, _)]) (wr := []) I hA [0] [] rfl rfl (by decide) (by decide) (kn_runV (As := [.int _, .int _]) S0 hK hZ hA I ((ctX9_entry h).met _) (kn_cwV 2 hts q6_44 q6_46 q0_50 q1_10 q6_47 rfl rfl (by decide +kernel) ⟨(Nat.le_of_ble_eq_true rfl), (Nat.le_of_ble_eq_true rfl)⟩) [0] rfl (by decide) 0 rfl rfl rfl rfl hl.1 rfl (Nat.le_of_ble_eq_true rfl) (kn_dec tX9_answers 10 rfl) ⟨(Nat.le_of_ble_eq_true rfl), (Nat.le_of_ble_eq_true rfl)⟩) (fun u6 H locs h I => ?_)
        have I : kn_I D tc (kn_A w0 s.heap.size) s.heap [(kModel, ad_m, _)] _ _ := I
        refine lv_aload_n hx hb (kn_dec tX9_answers 11 rfl) rfl (lv_at hl 0 rfl) ?_
        refine lv_dup hx hb (kn_dec tX9_answers 12 rfl) rfl ?_
        refine kw_geti hx hb hts inX9 hown hK I 0 rfl rfl 38 (by decide) rfl (hts _ q4_238) (kn_dec tX9_answers 13 rfl) ?_
        refine lv_iconst (v := (1)) hx hb (kn_dec tX9_answers 14 rfl) (by decide) ?_
        refine lv_isub hx hb (kn_dec tX9_answers 15 rfl) ?_
        refine lv_topi (fun x7 ex7 => ?_)
        have h := h x7 ex7
        refine kw_puti hx hb hts inX9 tyX9 tyX9_ok nmX9 hown hK I 0 rfl rfl 38 (by decide) rfl (hts _ q4_238) rfl rfl rfl (kn_dec tX9_answers 16 rfl) (fun v_m8 ev_m8 H locs I => ?_)
        have h := h v_m8 ev_m8
        have I : kn_I D tc (kn_A w0 s.heap.size) s.heap [(kModel, ad_m, _)] _ _ := I
        refine lv_aload_n hx hb (kn_dec tX9_answers 17 rfl) rfl (lv_at hl 0 rfl) ?_
        refine lv_dup hx hb (kn_dec tX9_answers 18 rfl) rfl ?_
        refine kw_geti hx hb hts inX9 hown hK I 0 rfl rfl 36 (by decide) rfl (hts _ q4_236) (kn_dec tX9_answers 19 rfl) ?_
        refine lv_iload_n hx hb (kn_dec tX9_answers 20 rfl) rfl (lv_at hl 1 rfl) ?_
        refine lv_bipush (v := (9)) hx hb (kn_dec tX9_answers 21 rfl) (by decide) ?_
        refine lv_icmp_ne (tgt := 46) hx hb (kn_dec tX9_answers 22 rfl) (by decide) (fun c9 => ?_) (fun c9 => ?_)
        · have h := h.1 c9
          refine lv_iconst (v := (0)) hx hb (kn_dec tX9_answers 25 rfl) (by decide) ?_
          refine lv_isub hx hb (kn_dec tX9_answers 26 rfl) ?_
          refine lv_topi (fun x10 ex10 => ?_)
          have h := h x10 ex10
          refine kw_puti hx hb hts inX9 tyX9 tyX9_ok nmX9 hown hK I 0 rfl rfl 36 (by decide) rfl (hts _ q4_236) rfl rfl rfl (kn_dec tX9_answers 27 rfl) (fun v_m11 ev_m11 H locs I => ?_)
          have h := h v_m11 ev_m11
          have I : kn_I D tc (kn_A w0 s.heap.size) s.heap [(kModel, ad_m, _)] _ _ := I
          refine lv_goto (tgt := 0) hx hb (kn_dec tX9_answers 28 rfl) (by decide) ?_
          exact ih _ _ _ _ _  I (lv_sub hl [0, 1] rfl) h
        · have h := h.2 c9
          refine lv_iconst (v := (1)) hx hb (kn_dec tX9_answers 23 rfl) (by decide) ?_
          refine lv_goto (tgt := 47) hx hb (kn_dec tX9_answers 24 rfl) (by decide) ?_
          refine lv_isub hx hb (kn_dec tX9_answers 26 rfl) ?_
          refine lv_topi (fun x12 ex12 => ?_)
          have h := h x12 ex12
          refine kw_puti hx hb hts inX9 tyX9 tyX9_ok nmX9 hown hK I 0 rfl rfl 36 (by decide) rfl (hts _ q4_236) rfl rfl rfl (kn_dec tX9_answers 27 rfl) (fun v_m13 ev_m13 H locs I => ?_)
          have h := h v_m13 ev_m13
          have I : kn_I D tc (kn_A w0 s.heap.size) s.heap [(kModel, ad_m, _)] _ _ := I
          refine lv_goto (tgt := 0) hx hb (kn_dec tX9_answers 28 rfl) (by decide) ?_
          exact ih _ _ _ _ _  I (lv_sub hl [0, 1] rfl) h
def PX9_answers  (v_m : OV) (a1 : Int32) (post : OV → Prop) : Prop := (∃ n1 : Nat, PX9_answers_L0 post n1 a1 v_m)
set_option maxRecDepth 100000 in
set_option maxHeartbeats 1000000 in
theorem ctX9_answers {l : Launch} {D : va_G} {tc : Nat → ClassId} {Z : (Nat → Nat) × (Nat → Nat)}  {ad_m : Nat → Nat} {v_m : OV} {a1 : Int32}    {post : OV → Prop} (h : PX9_answers  v_m a1 post) : CTv l D tc Z yX9_answers (Cond.code yX9_answers cX9_answers 2 none :: kn_all) rmX9_answers 0 0 [.ref (ad_m 0), .int a1] [(kModel, ad_m, v_m)] (fun (u : OV) => [(kModel, ad_m, u)]) (fun (u : OV) => post u) := by
  refine kn_ofv (cc := cX9_answers) (nL := 2) (ret := none) (lv := [(0, .ref (ad_m 0)), (1, .int a1)]) (by decide) (Nat.le_of_ble_eq_true rfl) rfl (fun p e s m below meth c ls X I hl _ => ?_)
  obtain ⟨S0, hr, hlocks, hK, hZ, hA⟩ := id X
  obtain ⟨hx, hb, hml, hown, hts⟩ := id S0
  unfold PX9_answers at h
  obtain ⟨n1, h⟩ := h
  exact wX9_answers_L0 X n1 _ _ _ _ _  I (lv_sub hl [0, 1] rfl) h

/-! X9_goesOn -/
abbrev rmX9_goesOn : Room := { frames := 2, cells := 0, slots := 0, locals := 40 }
def PX9_goesOn_b63   (post : Int32 → OV → Prop) (t0 : Int32) (v_m : OV) : Prop := (∀ x1 : Int32, x1 = ((v_m.1 31) + ((1 : Int32))) → (∀ v_m2 : OV, v_m2 = si v_m 31 x1 → post t0 v_m2))
set_option maxRecDepth 100000 in
set_option maxHeartbeats 1000000 in
theorem wX9_goesOn_b63   {post : Int32 → OV → Prop} {ad_m : Nat → Nat} (X : kn_X p s m args meth c cX9_goesOn 2 (some .boolean) RX9 kn_all D tc Z (kn_A w0 s.heap.size))    : ∀ (H : Heap) (locs : List Loc) (ls : Array Slot) (t0 : Int32) (v_m : OV), (hz_t0 : t0 = 0 ∨ t0 = 1) → kn_I D tc (kn_A w0 s.heap.size) s.heap [(kModel, ad_m, v_m)] H locs → lv_has ls 2 [(0, .ref (ad_m 0))] → PX9_goesOn_b63 post t0 v_m → W p l e rmX9_goesOn s m args below meth c H locs 0 0 (kn_Qi D tc w0 (fun (u : OV) => [(kModel, ad_m, u)]) (fun (r : Int32) (u : OV) => (r = 0 ∨ r = 1) ∧ post r u) below args s 0 0) (F0 m 63 ls [.int t0]) := by
  obtain ⟨S0, hr, hlocks, hK, hZ, hA⟩ := id X
  obtain ⟨hx, hb, hml, hown, hts⟩ := id S0
  intro H locs ls t0 v_m hz_t0 I hl h
  unfold PX9_goesOn_b63 at h
  refine lv_istore_n (lv' := [(1, .int _), (0, .ref (ad_m 0))]) hx hb (kn_dec tX9_goesOn 30 rfl) rfl hl (by decide) rfl (fun ls hl => ?_)
  refine lv_aload_n hx hb (kn_dec tX9_goesOn 31 rfl) rfl (lv_at hl 1 rfl) ?_
  refine lv_dup hx hb (kn_dec tX9_goesOn 32 rfl) rfl ?_
  refine kw_geti hx hb hts inX9 hown hK I 0 rfl rfl 31 (by decide) rfl (hts _ q4_231) (kn_dec tX9_goesOn 33 rfl) ?_
  refine lv_iconst (v := (1)) hx hb (kn_dec tX9_goesOn 34 rfl) (by decide) ?_
  refine lv_iadd hx hb (kn_dec tX9_goesOn 35 rfl) ?_
  refine lv_topi (fun x1 ex1 => ?_)
  have h := h x1 ex1
  refine kw_puti hx hb hts inX9 tyX9 tyX9_ok nmX9 hown hK I 0 rfl rfl 31 (by decide) rfl (hts _ q4_231) rfl rfl rfl (kn_dec tX9_goesOn 36 rfl) (fun v_m2 ev_m2 H locs I => ?_)
  have h := h v_m2 ev_m2
  have I : kn_I D tc (kn_A w0 s.heap.size) s.heap [(kModel, ad_m, _)] _ _ := I
  refine lv_iload_n hx hb (kn_dec tX9_goesOn 37 rfl) rfl (lv_at hl 0 rfl) ?_
  exact kw_zret hx hb hr (kn_nz hz_t0) hlocks I _ rfl ⟨hz_t0, h⟩ (kn_dec tX9_goesOn 38 rfl)
def PX9_goesOn_b40   (post : Int32 → OV → Prop) (v_m : OV) : Prop := ((¬ (v_m.1 32) = ((0 : Int32)) → PX9_goesOn_b63 post ((0 : Int32)) v_m) ∧ ((v_m.1 32) = ((0 : Int32)) → (((v_m.1 30) ≤ (v_m.1 31) → PX9_goesOn_b63 post ((0 : Int32)) v_m) ∧ (¬ (v_m.1 30) ≤ (v_m.1 31) → PX9_goesOn_b63 post ((1 : Int32)) v_m))))
set_option maxRecDepth 100000 in
set_option maxHeartbeats 1000000 in
theorem wX9_goesOn_b40   {post : Int32 → OV → Prop} {ad_m : Nat → Nat} (X : kn_X p s m args meth c cX9_goesOn 2 (some .boolean) RX9 kn_all D tc Z (kn_A w0 s.heap.size))    : ∀ (H : Heap) (locs : List Loc) (ls : Array Slot) (v_m : OV), kn_I D tc (kn_A w0 s.heap.size) s.heap [(kModel, ad_m, v_m)] H locs → lv_has ls 2 [(0, .ref (ad_m 0))] → PX9_goesOn_b40 post v_m → W p l e rmX9_goesOn s m args below meth c H locs 0 0 (kn_Qi D tc w0 (fun (u : OV) => [(kModel, ad_m, u)]) (fun (r : Int32) (u : OV) => (r = 0 ∨ r = 1) ∧ post r u) below args s 0 0) (F0 m 40 ls []) := by
  obtain ⟨S0, hr, hlocks, hK, hZ, hA⟩ := id X
  obtain ⟨hx, hb, hml, hown, hts⟩ := id S0
  intro H locs ls v_m I hl h
  unfold PX9_goesOn_b40 at h
  refine lv_aload_n hx hb (kn_dec tX9_goesOn 19 rfl) rfl (lv_at hl 0 rfl) ?_
  refine kw_geti hx hb hts inX9 hown hK I 0 rfl rfl 32 (by decide) rfl (hts _ q4_232) (kn_dec tX9_goesOn 20 rfl) ?_
  refine lv_if_ne (tgt := 62) hx hb (kn_dec tX9_goesOn 21 rfl) (by decide) (fun c1 => ?_) (fun c1 => ?_)
  · have h := h.1 c1
    refine lv_iconst (v := (0)) hx hb (kn_dec tX9_goesOn 29 rfl) (by decide) ?_
    exact wX9_goesOn_b63 X _ _ _ _ _ (Or.inl rfl) I (lv_sub hl [0] rfl) h
  · have h := h.2 c1
    refine lv_aload_n hx hb (kn_dec tX9_goesOn 22 rfl) rfl (lv_at hl 0 rfl) ?_
    refine kw_geti hx hb hts inX9 hown hK I 0 rfl rfl 31 (by decide) rfl (hts _ q4_231) (kn_dec tX9_goesOn 23 rfl) ?_
    refine lv_aload_n hx hb (kn_dec tX9_goesOn 24 rfl) rfl (lv_at hl 0 rfl) ?_
    refine kw_geti hx hb hts inX9 hown hK I 0 rfl rfl 30 (by decide) rfl (hts _ q4_230) (kn_dec tX9_goesOn 25 rfl) ?_
    refine lv_icmp_ge (tgt := 62) hx hb (kn_dec tX9_goesOn 26 rfl) (by decide) (fun c2 => ?_) (fun c2 => ?_)
    · have h := h.1 c2
      refine lv_iconst (v := (0)) hx hb (kn_dec tX9_goesOn 29 rfl) (by decide) ?_
      exact wX9_goesOn_b63 X _ _ _ _ _ (Or.inl rfl) I (lv_sub hl [0] rfl) h
    · have h := h.2 c2
      refine lv_iconst (v := (1)) hx hb (kn_dec tX9_goesOn 27 rfl) (by decide) ?_
      refine lv_goto (tgt := 63) hx hb (kn_dec tX9_goesOn 28 rfl) (by decide) ?_
      exact wX9_goesOn_b63 X _ _ _ _ _ (Or.inr rfl) I (lv_sub hl [0] rfl) h
def PX9_goesOn  (v_m : OV) (post : Int32 → OV → Prop) : Prop := (PX9_blanks v_m (fun v_m1 => ((¬ (v_m1.1 32) = ((0 : Int32)) → PX9_goesOn_b40 post v_m1) ∧ ((v_m1.1 32) = ((0 : Int32)) → (((v_m1.1 30) ≤ (v_m1.1 31) → PX9_goesOn_b40 post v_m1) ∧ (¬ (v_m1.1 30) ≤ (v_m1.1 31) → (PX9_sign v_m1 (fun r5 => ((r5 = ((59 : Int32)) → PX9_goesOn_b40 post v_m1) ∧ (¬ r5 = ((59 : Int32)) → (PX9_fails v_m1 ((0 : Int32)) (v_m1.1 31) (fun v_m8 => PX9_goesOn_b40 post v_m8))))))))))))
set_option maxRecDepth 100000 in
set_option maxHeartbeats 1000000 in
theorem ctX9_goesOn {l : Launch} {D : va_G} {tc : Nat → ClassId} {Z : (Nat → Nat) × (Nat → Nat)}  {ad_m : Nat → Nat} {v_m : OV}    {post : Int32 → OV → Prop} (h : PX9_goesOn  v_m post) : CTi l D tc Z yX9_goesOn (Cond.code yX9_goesOn cX9_goesOn 2 (some .boolean) :: kn_all) rmX9_goesOn 0 0 [.ref (ad_m 0)] [(kModel, ad_m, v_m)] (fun (u : OV) => [(kModel, ad_m, u)]) (fun (r : Int32) (u : OV) => (r = 0 ∨ r = 1) ∧ post r u) := by
  refine kn_ofi (cc := cX9_goesOn) (nL := 2) (ret := (some .boolean)) (lv := [(0, .ref (ad_m 0))]) (by decide) (Nat.le_of_ble_eq_true rfl) rfl (fun p e s m below meth c ls X I hl _ => ?_)
  obtain ⟨S0, hr, hlocks, hK, hZ, hA⟩ := id X
  obtain ⟨hx, hb, hml, hown, hts⟩ := id S0
  unfold PX9_goesOn at h
  refine lv_aload_n hx hb (kn_dec tX9_goesOn 0 rfl) rfl (lv_at hl 0 rfl) ?_
  refine kw_callv (wc := [(kModel, ad_m, _)]) (wr := []) I hA [0] [] rfl rfl (by decide) (by decide) (kn_runV (As := []) S0 hK hZ hA I ((ctX9_blanks h).met _) (kn_cwV 0 hts q5_191 q5_193 q0_33 q1_10 q5_194 rfl rfl (by decide +kernel) ⟨(Nat.le_of_ble_eq_true rfl), (Nat.le_of_ble_eq_true rfl)⟩) [0] rfl (by decide) 0 rfl rfl rfl rfl hl.1 rfl (Nat.le_of_ble_eq_true rfl) (kn_dec tX9_goesOn 1 rfl) ⟨(Nat.le_of_ble_eq_true rfl), (Nat.le_of_ble_eq_true rfl)⟩) (fun u2 H locs h I => ?_)
  have I : kn_I D tc (kn_A _ s.heap.size) s.heap [(kModel, ad_m, _)] _ _ := I
  refine lv_aload_n hx hb (kn_dec tX9_goesOn 2 rfl) rfl (lv_at hl 0 rfl) ?_
  refine kw_geti hx hb hts inX9 hown hK I 0 rfl rfl 32 (by decide) rfl (hts _ q4_232) (kn_dec tX9_goesOn 3 rfl) ?_
  refine lv_if_ne (tgt := 40) hx hb (kn_dec tX9_goesOn 4 rfl) (by decide) (fun c3 => ?_) (fun c3 => ?_)
  · have h := h.1 c3
    exact wX9_goesOn_b40 X _ _ _ _  I (lv_sub hl [0] rfl) h
  · have h := h.2 c3
    refine lv_aload_n hx hb (kn_dec tX9_goesOn 5 rfl) rfl (lv_at hl 0 rfl) ?_
    refine kw_geti hx hb hts inX9 hown hK I 0 rfl rfl 31 (by decide) rfl (hts _ q4_231) (kn_dec tX9_goesOn 6 rfl) ?_
    refine lv_aload_n hx hb (kn_dec tX9_goesOn 7 rfl) rfl (lv_at hl 0 rfl) ?_
    refine kw_geti hx hb hts inX9 hown hK I 0 rfl rfl 30 (by decide) rfl (hts _ q4_230) (kn_dec tX9_goesOn 8 rfl) ?_
    refine lv_icmp_ge (tgt := 40) hx hb (kn_dec tX9_goesOn 9 rfl) (by decide) (fun c4 => ?_) (fun c4 => ?_)
    · have h := h.1 c4
      exact wX9_goesOn_b40 X _ _ _ _  I (lv_sub hl [0] rfl) h
    · have h := h.2 c4
      refine lv_aload_n hx hb (kn_dec tX9_goesOn 10 rfl) rfl (lv_at hl 0 rfl) ?_
      refine kw_calli (wc := [(kModel, ad_m, _)]) (wr := []) I hA [0] [] rfl rfl (by decide) (by decide) (kn_runV (As := []) S0 hK hZ hA I ((ctX9_sign h).met _) (kn_cwV 0 hts q5_195 q5_197 q0_34 q1_10 q5_198 rfl rfl (by decide +kernel) ⟨(Nat.le_of_ble_eq_true rfl), (Nat.le_of_ble_eq_true rfl)⟩) [0] rfl (by decide) 0 rfl rfl rfl rfl hl.1 rfl (Nat.le_of_ble_eq_true rfl) (kn_dec tX9_goesOn 11 rfl) ⟨(Nat.le_of_ble_eq_true rfl), (Nat.le_of_ble_eq_true rfl)⟩) (fun r5 u6 H locs h I => ?_)
      have I : kn_I D tc (kn_A _ s.heap.size) s.heap [(kModel, ad_m, _)] _ _ := I
      refine lv_bipush (v := (59)) hx hb (kn_dec tX9_goesOn 12 rfl) (by decide) ?_
      refine lv_icmp_eq (tgt := 40) hx hb (kn_dec tX9_goesOn 13 rfl) (by decide) (fun c7 => ?_) (fun c7 => ?_)
      · have h := h.1 c7
        exact wX9_goesOn_b40 X _ _ _ _  I (lv_sub hl [0] rfl) h
      · have h := h.2 c7
        refine lv_aload_n hx hb (kn_dec tX9_goesOn 14 rfl) rfl (lv_at hl 0 rfl) ?_
        refine lv_iconst (v := (0)) hx hb (kn_dec tX9_goesOn 15 rfl) (by decide) ?_
        refine lv_aload_n hx hb (kn_dec tX9_goesOn 16 rfl) rfl (lv_at hl 0 rfl) ?_
        refine kw_geti hx hb hts inX9 hown hK I 0 rfl rfl 31 (by decide) rfl (hts _ q4_231) (kn_dec tX9_goesOn 17 rfl) ?_
        refine kw_callv (wc := [(kModel, ad_m, _)]) (wr := []) I hA [0] [] rfl rfl (by decide) (by decide) (kn_runV (As := [.int _, .int _]) S0 hK hZ hA I ((ctX9_fails h).met _) (kn_cwV 2 hts q5_214 q5_216 q0_36 q1_10 q5_217 rfl rfl (by decide +kernel) ⟨(Nat.le_of_ble_eq_true rfl), (Nat.le_of_ble_eq_true rfl)⟩) [0] rfl (by decide) 0 rfl rfl rfl rfl hl.1 rfl (Nat.le_of_ble_eq_true rfl) (kn_dec tX9_goesOn 18 rfl) ⟨(Nat.le_of_ble_eq_true rfl), (Nat.le_of_ble_eq_true rfl)⟩) (fun u9 H locs h I => ?_)
        have I : kn_I D tc (kn_A _ s.heap.size) s.heap [(kModel, ad_m, _)] _ _ := I
        exact wX9_goesOn_b40 X _ _ _ _  I (lv_sub hl [0] rfl) h

/-! X9_starts -/
abbrev rmX9_starts : Room := { frames := 0, cells := 0, slots := 0, locals := 0 }
def PX9_starts  (v_m : OV) (post : OV → Prop) : Prop := (∀ v_m1 : OV, v_m1 = si v_m 31 ((0 : Int32)) → (∀ v_m2 : OV, v_m2 = si v_m1 32 ((0 : Int32)) → (∀ v_m3 : OV, v_m3 = si v_m2 35 ((0 : Int32)) → (∀ v_m4 : OV, v_m4 = si v_m3 36 ((0 : Int32)) → (∀ v_m5 : OV, v_m5 = si v_m4 37 ((0 : Int32)) → post v_m5)))))
set_option maxRecDepth 100000 in
set_option maxHeartbeats 1000000 in
theorem ctX9_starts {l : Launch} {D : va_G} {tc : Nat → ClassId} {Z : (Nat → Nat) × (Nat → Nat)}  {ad_m : Nat → Nat} {v_m : OV}    {post : OV → Prop} (h : PX9_starts  v_m post) : CTv l D tc Z yX9_starts (Cond.code yX9_starts cX9_starts 1 none :: kn_all) rmX9_starts 0 0 [.ref (ad_m 0)] [(kModel, ad_m, v_m)] (fun (u : OV) => [(kModel, ad_m, u)]) (fun (u : OV) => post u) := by
  refine kn_ofv (cc := cX9_starts) (nL := 1) (ret := none) (lv := [(0, .ref (ad_m 0))]) (by decide) (Nat.le_of_ble_eq_true rfl) rfl (fun p e s m below meth c ls X I hl _ => ?_)
  obtain ⟨S0, hr, hlocks, hK, hZ, hA⟩ := id X
  obtain ⟨hx, hb, hml, hown, hts⟩ := id S0
  unfold PX9_starts at h
  refine lv_aload_n hx hb (kn_dec tX9_starts 0 rfl) rfl (lv_at hl 0 rfl) ?_
  refine lv_iconst (v := (0)) hx hb (kn_dec tX9_starts 1 rfl) (by decide) ?_
  refine kw_puti hx hb hts inX9 tyX9 tyX9_ok nmX9 hown hK I 0 rfl rfl 31 (by decide) rfl (hts _ q4_231) rfl rfl rfl (kn_dec tX9_starts 2 rfl) (fun v_m1 ev_m1 H locs I => ?_)
  have h := h v_m1 ev_m1
  have I : kn_I D tc (kn_A _ s.heap.size) s.heap [(kModel, ad_m, _)] _ _ := I
  refine lv_aload_n hx hb (kn_dec tX9_starts 3 rfl) rfl (lv_at hl 0 rfl) ?_
  refine lv_iconst (v := (0)) hx hb (kn_dec tX9_starts 4 rfl) (by decide) ?_
  refine kw_puti hx hb hts inX9 tyX9 tyX9_ok nmX9 hown hK I 0 rfl rfl 32 (by decide) rfl (hts _ q4_232) rfl rfl rfl (kn_dec tX9_starts 5 rfl) (fun v_m2 ev_m2 H locs I => ?_)
  have h := h v_m2 ev_m2
  have I : kn_I D tc (kn_A _ s.heap.size) s.heap [(kModel, ad_m, _)] _ _ := I
  refine lv_aload_n hx hb (kn_dec tX9_starts 6 rfl) rfl (lv_at hl 0 rfl) ?_
  refine lv_iconst (v := (0)) hx hb (kn_dec tX9_starts 7 rfl) (by decide) ?_
  refine kw_puti hx hb hts inX9 tyX9 tyX9_ok nmX9 hown hK I 0 rfl rfl 35 (by decide) rfl (hts _ q4_235) rfl rfl rfl (kn_dec tX9_starts 8 rfl) (fun v_m3 ev_m3 H locs I => ?_)
  have h := h v_m3 ev_m3
  have I : kn_I D tc (kn_A _ s.heap.size) s.heap [(kModel, ad_m, _)] _ _ := I
  refine lv_aload_n hx hb (kn_dec tX9_starts 9 rfl) rfl (lv_at hl 0 rfl) ?_
  refine lv_iconst (v := (0)) hx hb (kn_dec tX9_starts 10 rfl) (by decide) ?_
  refine kw_puti hx hb hts inX9 tyX9 tyX9_ok nmX9 hown hK I 0 rfl rfl 36 (by decide) rfl (hts _ q4_236) rfl rfl rfl (kn_dec tX9_starts 11 rfl) (fun v_m4 ev_m4 H locs I => ?_)
  have h := h v_m4 ev_m4
  have I : kn_I D tc (kn_A _ s.heap.size) s.heap [(kModel, ad_m, _)] _ _ := I
  refine lv_aload_n hx hb (kn_dec tX9_starts 12 rfl) rfl (lv_at hl 0 rfl) ?_
  refine lv_iconst (v := (0)) hx hb (kn_dec tX9_starts 13 rfl) (by decide) ?_
  refine kw_puti hx hb hts inX9 tyX9 tyX9_ok nmX9 hown hK I 0 rfl rfl 37 (by decide) rfl (hts _ q4_237) rfl rfl rfl (kn_dec tX9_starts 14 rfl) (fun v_m5 ev_m5 H locs I => ?_)
  have h := h v_m5 ev_m5
  have I : kn_I D tc (kn_A _ s.heap.size) s.heap [(kModel, ad_m, _)] _ _ := I
  exact kw_vret hx hb hr hlocks I _ rfl h (kn_dec tX9_starts 15 rfl)

/-! X9_amount -/
abbrev rmX9_amount : Room := { frames := 3, cells := 0, slots := 0, locals := 68 }
def PX9_amount_b26   (post : Int32 → OV → Prop) (t0 : Int32) (y1 : Int32) (y2 : Int32) (y3 : Int32) (v_m : OV) : Prop := ((¬ (v_m.1 32) = ((0 : Int32)) → post t0 v_m) ∧ ((v_m.1 32) = ((0 : Int32)) → (PX9_in t0.toInt64 y1.toInt64 y2.toInt64 (fun r2 => ((¬ r2 = ((0 : Int32)) → post t0 v_m) ∧ (r2 = ((0 : Int32)) → (PX9_fails v_m ((1 : Int32)) y3 (fun v_m5 => post t0 v_m5))))))))
set_option maxRecDepth 100000 in
set_option maxHeartbeats 1000000 in
theorem wX9_amount_b26   {post : Int32 → OV → Prop} {ad_m : Nat → Nat} (X : kn_X p s m args meth c cX9_amount 5 (some .int) RX9 kn_all D tc Z (kn_A w0 s.heap.size))    : ∀ (H : Heap) (locs : List Loc) (ls : Array Slot) (t0 : Int32) (y1 : Int32) (y2 : Int32) (y3 : Int32) (v_m : OV), kn_I D tc (kn_A w0 s.heap.size) s.heap [(kModel, ad_m, v_m)] H locs → lv_has ls 5 [(0, .ref (ad_m 0)), (1, .int y1), (2, .int y2), (3, .int y3)] → PX9_amount_b26 post t0 y1 y2 y3 v_m → W p l e rmX9_amount s m args below meth c H locs 0 0 (kn_Qi D tc w0 (fun (u : OV) => [(kModel, ad_m, u)]) (fun (r : Int32) (u : OV) => post r u) below args s 0 0) (F0 m 26 ls [.int t0]) := by
  obtain ⟨S0, hr, hlocks, hK, hZ, hA⟩ := id X
  obtain ⟨hx, hb, hml, hown, hts⟩ := id S0
  intro H locs ls t0 y1 y2 y3 v_m I hl h
  unfold PX9_amount_b26 at h
  refine lv_istore (lv' := [(4, .int _), (0, .ref (ad_m 0)), (1, .int _), (2, .int _), (3, .int _)]) hx hb (kn_dec tX9_amount 13 rfl) hl (by decide) rfl (fun ls hl => ?_)
  refine lv_aload_n hx hb (kn_dec tX9_amount 14 rfl) rfl (lv_at hl 1 rfl) ?_
  refine kw_geti hx hb hts inX9 hown hK I 0 rfl rfl 32 (by decide) rfl (hts _ q4_232) (kn_dec tX9_amount 15 rfl) ?_
  refine lv_if_ne (tgt := 54) hx hb (kn_dec tX9_amount 16 rfl) (by decide) (fun c1 => ?_) (fun c1 => ?_)
  · have h := h.1 c1
    refine lv_iload hx hb (kn_dec tX9_amount 29 rfl) (lv_at hl 0 rfl) ?_
    exact kw_iret hx hb hr hlocks I _ rfl h (kn_dec tX9_amount 30 rfl)
  · have h := h.2 c1
    refine lv_iload hx hb (kn_dec tX9_amount 17 rfl) (lv_at hl 0 rfl) ?_
    refine lv_i2l hx hb (kn_dec tX9_amount 18 rfl) rfl ?_
    refine lv_iload_n hx hb (kn_dec tX9_amount 19 rfl) rfl (lv_at hl 2 rfl) ?_
    refine lv_i2l hx hb (kn_dec tX9_amount 20 rfl) rfl ?_
    refine lv_iload_n hx hb (kn_dec tX9_amount 21 rfl) rfl (lv_at hl 3 rfl) ?_
    refine lv_i2l hx hb (kn_dec tX9_amount 22 rfl) rfl ?_
    refine kw_calli (wc := []) (wr := [(kModel, ad_m, _)]) I hA [] [0] rfl rfl (by decide) (by decide) (kn_runS (As := [.long _, .long _, .long _]) S0 hK hZ hA I ((ctX9_in h).met _) (kn_cwS 3 hts q6_1 q6_2 q1_10 q6_3 rfl rfl (by decide +kernel) ⟨(Nat.le_of_ble_eq_true rfl), (Nat.le_of_ble_eq_true rfl)⟩) [] rfl (by decide) rfl hl.1 rfl (Nat.le_of_ble_eq_true rfl) (kn_dec tX9_amount 23 rfl) ⟨(Nat.le_of_ble_eq_true rfl), (Nat.le_of_ble_eq_true rfl)⟩) (fun r2 u3 H locs h I => ?_)
    obtain ⟨hz_r2, h⟩ := h
    have I : kn_I D tc (kn_A w0 s.heap.size) s.heap [(kModel, ad_m, _)] _ _ := I
    refine lv_if_ne (tgt := 54) hx hb (kn_dec tX9_amount 24 rfl) (by decide) (fun c4 => ?_) (fun c4 => ?_)
    · have h := h.1 c4
      refine lv_iload hx hb (kn_dec tX9_amount 29 rfl) (lv_at hl 0 rfl) ?_
      exact kw_iret hx hb hr hlocks I _ rfl h (kn_dec tX9_amount 30 rfl)
    · have h := h.2 c4
      refine lv_aload_n hx hb (kn_dec tX9_amount 25 rfl) rfl (lv_at hl 1 rfl) ?_
      refine lv_iconst (v := (1)) hx hb (kn_dec tX9_amount 26 rfl) (by decide) ?_
      refine lv_iload_n hx hb (kn_dec tX9_amount 27 rfl) rfl (lv_at hl 4 rfl) ?_
      refine kw_callv (wc := [(kModel, ad_m, _)]) (wr := []) I hA [0] [] rfl rfl (by decide) (by decide) (kn_runV (As := [.int _, .int _]) S0 hK hZ hA I ((ctX9_fails h).met _) (kn_cwV 2 hts q5_214 q5_216 q0_36 q1_10 q5_217 rfl rfl (by decide +kernel) ⟨(Nat.le_of_ble_eq_true rfl), (Nat.le_of_ble_eq_true rfl)⟩) [0] rfl (by decide) 0 rfl rfl rfl rfl hl.1 rfl (Nat.le_of_ble_eq_true rfl) (kn_dec tX9_amount 28 rfl) ⟨(Nat.le_of_ble_eq_true rfl), (Nat.le_of_ble_eq_true rfl)⟩) (fun u6 H locs h I => ?_)
      have I : kn_I D tc (kn_A w0 s.heap.size) s.heap [(kModel, ad_m, _)] _ _ := I
      refine lv_iload hx hb (kn_dec tX9_amount 29 rfl) (lv_at hl 0 rfl) ?_
      exact kw_iret hx hb hr hlocks I _ rfl h (kn_dec tX9_amount 30 rfl)
def PX9_amount  (v_m : OV) (a1 : Int32) (a2 : Int32) (post : Int32 → OV → Prop) : Prop := (PX9_blanks v_m (fun v_m1 => (∀ x3 : Int32, x3 = (v_m1.1 31) → ((¬ (v_m1.1 32) = ((0 : Int32)) → PX9_amount_b26 post ((0 : Int32)) a1 a2 x3 v_m1) ∧ ((v_m1.1 32) = ((0 : Int32)) → (PX9_digits v_m1 ((99999 : Int32)) (fun r6 v_m5 => PX9_amount_b26 post r6 a1 a2 x3 v_m5)))))))
set_option maxRecDepth 100000 in
set_option maxHeartbeats 1000000 in
theorem ctX9_amount {l : Launch} {D : va_G} {tc : Nat → ClassId} {Z : (Nat → Nat) × (Nat → Nat)}  {ad_m : Nat → Nat} {v_m : OV} {a1 : Int32} {a2 : Int32}    {post : Int32 → OV → Prop} (h : PX9_amount  v_m a1 a2 post) : CTi l D tc Z yX9_amount (Cond.code yX9_amount cX9_amount 5 (some .int) :: kn_all) rmX9_amount 0 0 [.ref (ad_m 0), .int a1, .int a2] [(kModel, ad_m, v_m)] (fun (u : OV) => [(kModel, ad_m, u)]) (fun (r : Int32) (u : OV) => post r u) := by
  refine kn_ofi (cc := cX9_amount) (nL := 5) (ret := (some .int)) (lv := [(0, .ref (ad_m 0)), (1, .int a1), (2, .int a2)]) (by decide) (Nat.le_of_ble_eq_true rfl) rfl (fun p e s m below meth c ls X I hl _ => ?_)
  obtain ⟨S0, hr, hlocks, hK, hZ, hA⟩ := id X
  obtain ⟨hx, hb, hml, hown, hts⟩ := id S0
  unfold PX9_amount at h
  refine lv_aload_n hx hb (kn_dec tX9_amount 0 rfl) rfl (lv_at hl 0 rfl) ?_
  refine kw_callv (wc := [(kModel, ad_m, _)]) (wr := []) I hA [0] [] rfl rfl (by decide) (by decide) (kn_runV (As := []) S0 hK hZ hA I ((ctX9_blanks h).met _) (kn_cwV 0 hts q5_191 q5_193 q0_33 q1_10 q5_194 rfl rfl (by decide +kernel) ⟨(Nat.le_of_ble_eq_true rfl), (Nat.le_of_ble_eq_true rfl)⟩) [0] rfl (by decide) 0 rfl rfl rfl rfl hl.1 rfl (Nat.le_of_ble_eq_true rfl) (kn_dec tX9_amount 1 rfl) ⟨(Nat.le_of_ble_eq_true rfl), (Nat.le_of_ble_eq_true rfl)⟩) (fun u2 H locs h I => ?_)
  have I : kn_I D tc (kn_A _ s.heap.size) s.heap [(kModel, ad_m, _)] _ _ := I
  refine lv_aload_n hx hb (kn_dec tX9_amount 2 rfl) rfl (lv_at hl 0 rfl) ?_
  refine kw_geti hx hb hts inX9 hown hK I 0 rfl rfl 31 (by decide) rfl (hts _ q4_231) (kn_dec tX9_amount 3 rfl) ?_
  refine lv_topi (fun x3 ex3 => ?_)
  have h := h x3 ex3
  refine lv_istore_n (lv' := [(3, .int _), (0, .ref (ad_m 0)), (1, .int _), (2, .int _)]) hx hb (kn_dec tX9_amount 4 rfl) rfl hl (by decide) rfl (fun ls hl => ?_)
  refine lv_aload_n hx hb (kn_dec tX9_amount 5 rfl) rfl (lv_at hl 1 rfl) ?_
  refine kw_geti hx hb hts inX9 hown hK I 0 rfl rfl 32 (by decide) rfl (hts _ q4_232) (kn_dec tX9_amount 6 rfl) ?_
  refine lv_if_ne (tgt := 25) hx hb (kn_dec tX9_amount 7 rfl) (by decide) (fun c4 => ?_) (fun c4 => ?_)
  · have h := h.1 c4
    refine lv_iconst (v := (0)) hx hb (kn_dec tX9_amount 12 rfl) (by decide) ?_
    exact wX9_amount_b26 X _ _ _ _ _ _ _ _  I (lv_sub hl [1, 2, 3, 0] rfl) h
  · have h := h.2 c4
    refine lv_aload_n hx hb (kn_dec tX9_amount 8 rfl) rfl (lv_at hl 1 rfl) ?_
    refine lv_ldc (v := (99999)) hx hb hown (hts _ q5_230) (kn_dec tX9_amount 9 rfl) ?_
    refine kw_calli (wc := [(kModel, ad_m, _)]) (wr := []) I hA [0] [] rfl rfl (by decide) (by decide) (kn_runV (As := [.int _]) S0 hK hZ hA I ((ctX9_digits h).met _) (kn_cwV 1 hts q5_231 q5_233 q0_40 q1_10 q5_234 rfl rfl (by decide +kernel) ⟨(Nat.le_of_ble_eq_true rfl), (Nat.le_of_ble_eq_true rfl)⟩) [0] rfl (by decide) 0 rfl rfl rfl rfl hl.1 rfl (Nat.le_of_ble_eq_true rfl) (kn_dec tX9_amount 10 rfl) ⟨(Nat.le_of_ble_eq_true rfl), (Nat.le_of_ble_eq_true rfl)⟩) (fun r6 u7 H locs h I => ?_)
    have I : kn_I D tc (kn_A _ s.heap.size) s.heap [(kModel, ad_m, _)] _ _ := I
    refine lv_goto (tgt := 26) hx hb (kn_dec tX9_amount 11 rfl) (by decide) ?_
    exact wX9_amount_b26 X _ _ _ _ _ _ _ _  I (lv_sub hl [1, 2, 3, 0] rfl) h

/-! X9_readsSeeker -/
abbrev rmX9_readsSeeker : Room := { frames := 4, cells := 0, slots := 0, locals := 92 }
def PX9_readsSeeker  (v_m : OV) (post : OV → Prop) : Prop := (∀ x1 : Int32, x1 = (v_m.2.1 20 ((5 : Int32)).toNatClampNeg) → (PX9_amount v_m ((0 : Int32)) ((9 : Int32)) (fun r3 v_m2 => (vp_in x1 4 ∧ (∀ v_m6 : OV, v_m6 = sa v_m2 25 (upd (v_m2.2.1 25) x1.toNatClampNeg r3) → (PX9_amount v_m6 ((1 : Int32)) ((99 : Int32)) (fun r8 v_m7 => (vp_in x1 4 ∧ (∀ v_m11 : OV, v_m11 = sa v_m7 26 (upd (v_m7.2.1 26) x1.toNatClampNeg r8) → (PX9_amount v_m11 ((0 : Int32)) ((99 : Int32)) (fun r13 v_m12 => (vp_in x1 4 ∧ (∀ v_m16 : OV, v_m16 = sa v_m12 27 (upd (v_m12.2.1 27) x1.toNatClampNeg r13) → (PX9_amount v_m16 ((0 : Int32)) ((2 : Int32)) (fun r18 v_m17 => (vp_in x1 4 ∧ (∀ v_m21 : OV, v_m21 = sa v_m17 28 (upd (v_m17.2.1 28) x1.toNatClampNeg r18) → (∀ x22 : Int32, x22 = ((v_m21.2.1 20 ((5 : Int32)).toNatClampNeg) + ((1 : Int32))) → (∀ v_m23 : OV, v_m23 = sa v_m21 20 (upd (v_m21.2.1 20) ((5 : Int32)).toNatClampNeg x22) → post v_m23)))))))))))))))))))
set_option maxRecDepth 100000 in
set_option maxHeartbeats 1000000 in
theorem ctX9_readsSeeker {l : Launch} {D : va_G} {tc : Nat → ClassId} {Z : (Nat → Nat) × (Nat → Nat)}  {ad_m : Nat → Nat} {v_m : OV}    {post : OV → Prop} (h : PX9_readsSeeker  v_m post) : CTv l D tc Z yX9_readsSeeker (Cond.code yX9_readsSeeker cX9_readsSeeker 2 none :: kn_all) rmX9_readsSeeker 0 0 [.ref (ad_m 0)] [(kModel, ad_m, v_m)] (fun (u : OV) => [(kModel, ad_m, u)]) (fun (u : OV) => post u) := by
  refine kn_ofv (cc := cX9_readsSeeker) (nL := 2) (ret := none) (lv := [(0, .ref (ad_m 0))]) (by decide) (Nat.le_of_ble_eq_true rfl) rfl (fun p e s m below meth c ls X I hl _ => ?_)
  obtain ⟨S0, hr, hlocks, hK, hZ, hA⟩ := id X
  obtain ⟨hx, hb, hml, hown, hts⟩ := id S0
  unfold PX9_readsSeeker at h
  refine lv_aload_n hx hb (kn_dec tX9_readsSeeker 0 rfl) rfl (lv_at hl 0 rfl) ?_
  refine kw_getl hx hb hts inX9 hown hK I 0 rfl rfl 20 (by decide) rfl (hts _ q4_220) (kn_dec tX9_readsSeeker 1 rfl) rfl ?_
  refine lv_iconst (v := (5)) hx hb (kn_dec tX9_readsSeeker 2 rfl) (by decide) ?_
  refine kw_iald hx hb hK I 0 rfl 20 8 (List.mem_of_getElem? (i := 19) rfl) (by unfold vp_in; decide) (kn_dec tX9_readsSeeker 3 rfl) ?_
  refine lv_topi (fun x1 ex1 => ?_)
  have h := h x1 ex1
  refine lv_istore_n (lv' := [(1, .int _), (0, .ref (ad_m 0))]) hx hb (kn_dec tX9_readsSeeker 4 rfl) rfl hl (by decide) rfl (fun ls hl => ?_)
  refine lv_aload_n hx hb (kn_dec tX9_readsSeeker 5 rfl) rfl (lv_at hl 1 rfl) ?_
  refine kw_getl hx hb hts inX9 hown hK I 0 rfl rfl 25 (by decide) rfl (hts _ q4_225) (kn_dec tX9_readsSeeker 6 rfl) rfl ?_
  refine lv_iload_n hx hb (kn_dec tX9_readsSeeker 7 rfl) rfl (lv_at hl 0 rfl) ?_
  refine lv_aload_n hx hb (kn_dec tX9_readsSeeker 8 rfl) rfl (lv_at hl 1 rfl) ?_
  refine lv_iconst (v := (0)) hx hb (kn_dec tX9_readsSeeker 9 rfl) (by decide) ?_
  refine lv_bipush (v := (9)) hx hb (kn_dec tX9_readsSeeker 10 rfl) (by decide) ?_
  refine kw_calli (wc := [(kModel, ad_m, _)]) (wr := []) I hA [0] [] rfl rfl (by decide) (by decide) (kn_runV (As := [.int _, .int _]) S0 hK hZ hA I ((ctX9_amount h).met _) (kn_cwV 2 hts q5_226 q5_228 q0_39 q1_10 q5_229 rfl rfl (by decide +kernel) ⟨(Nat.le_of_ble_eq_true rfl), (Nat.le_of_ble_eq_true rfl)⟩) [0] rfl (by decide) 0 rfl rfl rfl rfl hl.1 rfl (Nat.le_of_ble_eq_true rfl) (kn_dec tX9_readsSeeker 11 rfl) ⟨(Nat.le_of_ble_eq_true rfl), (Nat.le_of_ble_eq_true rfl)⟩) (fun r3 u4 H locs h I => ?_)
  have I : kn_I D tc (kn_A _ s.heap.size) s.heap [(kModel, ad_m, _)] _ _ := I
  obtain ⟨hs5, h⟩ := h
  refine kw_iast hx hb hK I 0 rfl 25 4 (List.mem_of_getElem? (i := 24) rfl) ukModel_25 hs5 (kn_dec tX9_readsSeeker 12 rfl) (fun v_m6 ev_m6 H locs I => ?_)
  have h := h v_m6 ev_m6
  have I : kn_I D tc (kn_A _ s.heap.size) s.heap [(kModel, ad_m, _)] _ _ := I
  refine lv_aload_n hx hb (kn_dec tX9_readsSeeker 13 rfl) rfl (lv_at hl 1 rfl) ?_
  refine kw_getl hx hb hts inX9 hown hK I 0 rfl rfl 26 (by decide) rfl (hts _ q4_226) (kn_dec tX9_readsSeeker 14 rfl) rfl ?_
  refine lv_iload_n hx hb (kn_dec tX9_readsSeeker 15 rfl) rfl (lv_at hl 0 rfl) ?_
  refine lv_aload_n hx hb (kn_dec tX9_readsSeeker 16 rfl) rfl (lv_at hl 1 rfl) ?_
  refine lv_iconst (v := (1)) hx hb (kn_dec tX9_readsSeeker 17 rfl) (by decide) ?_
  refine lv_bipush (v := (99)) hx hb (kn_dec tX9_readsSeeker 18 rfl) (by decide) ?_
  refine kw_calli (wc := [(kModel, ad_m, _)]) (wr := []) I hA [0] [] rfl rfl (by decide) (by decide) (kn_runV (As := [.int _, .int _]) S0 hK hZ hA I ((ctX9_amount h).met _) (kn_cwV 2 hts q5_226 q5_228 q0_39 q1_10 q5_229 rfl rfl (by decide +kernel) ⟨(Nat.le_of_ble_eq_true rfl), (Nat.le_of_ble_eq_true rfl)⟩) [0] rfl (by decide) 0 rfl rfl rfl rfl hl.1 rfl (Nat.le_of_ble_eq_true rfl) (kn_dec tX9_readsSeeker 19 rfl) ⟨(Nat.le_of_ble_eq_true rfl), (Nat.le_of_ble_eq_true rfl)⟩) (fun r8 u9 H locs h I => ?_)
  have I : kn_I D tc (kn_A _ s.heap.size) s.heap [(kModel, ad_m, _)] _ _ := I
  obtain ⟨hs10, h⟩ := h
  refine kw_iast hx hb hK I 0 rfl 26 4 (List.mem_of_getElem? (i := 25) rfl) ukModel_26 hs10 (kn_dec tX9_readsSeeker 20 rfl) (fun v_m11 ev_m11 H locs I => ?_)
  have h := h v_m11 ev_m11
  have I : kn_I D tc (kn_A _ s.heap.size) s.heap [(kModel, ad_m, _)] _ _ := I
  refine lv_aload_n hx hb (kn_dec tX9_readsSeeker 21 rfl) rfl (lv_at hl 1 rfl) ?_
  refine kw_getl hx hb hts inX9 hown hK I 0 rfl rfl 27 (by decide) rfl (hts _ q4_227) (kn_dec tX9_readsSeeker 22 rfl) rfl ?_
  refine lv_iload_n hx hb (kn_dec tX9_readsSeeker 23 rfl) rfl (lv_at hl 0 rfl) ?_
  refine lv_aload_n hx hb (kn_dec tX9_readsSeeker 24 rfl) rfl (lv_at hl 1 rfl) ?_
  refine lv_iconst (v := (0)) hx hb (kn_dec tX9_readsSeeker 25 rfl) (by decide) ?_
  refine lv_bipush (v := (99)) hx hb (kn_dec tX9_readsSeeker 26 rfl) (by decide) ?_
  refine kw_calli (wc := [(kModel, ad_m, _)]) (wr := []) I hA [0] [] rfl rfl (by decide) (by decide) (kn_runV (As := [.int _, .int _]) S0 hK hZ hA I ((ctX9_amount h).met _) (kn_cwV 2 hts q5_226 q5_228 q0_39 q1_10 q5_229 rfl rfl (by decide +kernel) ⟨(Nat.le_of_ble_eq_true rfl), (Nat.le_of_ble_eq_true rfl)⟩) [0] rfl (by decide) 0 rfl rfl rfl rfl hl.1 rfl (Nat.le_of_ble_eq_true rfl) (kn_dec tX9_readsSeeker 27 rfl) ⟨(Nat.le_of_ble_eq_true rfl), (Nat.le_of_ble_eq_true rfl)⟩) (fun r13 u14 H locs h I => ?_)
  have I : kn_I D tc (kn_A _ s.heap.size) s.heap [(kModel, ad_m, _)] _ _ := I
  obtain ⟨hs15, h⟩ := h
  refine kw_iast hx hb hK I 0 rfl 27 4 (List.mem_of_getElem? (i := 26) rfl) ukModel_27 hs15 (kn_dec tX9_readsSeeker 28 rfl) (fun v_m16 ev_m16 H locs I => ?_)
  have h := h v_m16 ev_m16
  have I : kn_I D tc (kn_A _ s.heap.size) s.heap [(kModel, ad_m, _)] _ _ := I
  refine lv_aload_n hx hb (kn_dec tX9_readsSeeker 29 rfl) rfl (lv_at hl 1 rfl) ?_
  refine kw_getl hx hb hts inX9 hown hK I 0 rfl rfl 28 (by decide) rfl (hts _ q4_228) (kn_dec tX9_readsSeeker 30 rfl) rfl ?_
  refine lv_iload_n hx hb (kn_dec tX9_readsSeeker 31 rfl) rfl (lv_at hl 0 rfl) ?_
  refine lv_aload_n hx hb (kn_dec tX9_readsSeeker 32 rfl) rfl (lv_at hl 1 rfl) ?_
  refine lv_iconst (v := (0)) hx hb (kn_dec tX9_readsSeeker 33 rfl) (by decide) ?_
  refine lv_iconst (v := (2)) hx hb (kn_dec tX9_readsSeeker 34 rfl) (by decide) ?_
  refine kw_calli (wc := [(kModel, ad_m, _)]) (wr := []) I hA [0] [] rfl rfl (by decide) (by decide) (kn_runV (As := [.int _, .int _]) S0 hK hZ hA I ((ctX9_amount h).met _) (kn_cwV 2 hts q5_226 q5_228 q0_39 q1_10 q5_229 rfl rfl (by decide +kernel) ⟨(Nat.le_of_ble_eq_true rfl), (Nat.le_of_ble_eq_true rfl)⟩) [0] rfl (by decide) 0 rfl rfl rfl rfl hl.1 rfl (Nat.le_of_ble_eq_true rfl) (kn_dec tX9_readsSeeker 35 rfl) ⟨(Nat.le_of_ble_eq_true rfl), (Nat.le_of_ble_eq_true rfl)⟩) (fun r18 u19 H locs h I => ?_)
  have I : kn_I D tc (kn_A _ s.heap.size) s.heap [(kModel, ad_m, _)] _ _ := I
  obtain ⟨hs20, h⟩ := h
  refine kw_iast hx hb hK I 0 rfl 28 4 (List.mem_of_getElem? (i := 27) rfl) ukModel_28 hs20 (kn_dec tX9_readsSeeker 36 rfl) (fun v_m21 ev_m21 H locs I => ?_)
  have h := h v_m21 ev_m21
  have I : kn_I D tc (kn_A _ s.heap.size) s.heap [(kModel, ad_m, _)] _ _ := I
  refine lv_aload_n hx hb (kn_dec tX9_readsSeeker 37 rfl) rfl (lv_at hl 1 rfl) ?_
  refine kw_getl hx hb hts inX9 hown hK I 0 rfl rfl 20 (by decide) rfl (hts _ q4_220) (kn_dec tX9_readsSeeker 38 rfl) rfl ?_
  refine lv_iconst (v := (5)) hx hb (kn_dec tX9_readsSeeker 39 rfl) (by decide) ?_
  refine lv_dup2_11 hx hb (kn_dec tX9_readsSeeker 40 rfl) rfl rfl ?_
  refine kw_iald hx hb hK I 0 rfl 20 8 (List.mem_of_getElem? (i := 19) rfl) (by unfold vp_in; decide) (kn_dec tX9_readsSeeker 41 rfl) ?_
  refine lv_iconst (v := (1)) hx hb (kn_dec tX9_readsSeeker 42 rfl) (by decide) ?_
  refine lv_iadd hx hb (kn_dec tX9_readsSeeker 43 rfl) ?_
  refine lv_topi (fun x22 ex22 => ?_)
  have h := h x22 ex22
  refine kw_iast hx hb hK I 0 rfl 20 8 (List.mem_of_getElem? (i := 19) rfl) ukModel_20 (by unfold vp_in; decide) (kn_dec tX9_readsSeeker 44 rfl) (fun v_m23 ev_m23 H locs I => ?_)
  have h := h v_m23 ev_m23
  have I : kn_I D tc (kn_A _ s.heap.size) s.heap [(kModel, ad_m, _)] _ _ := I
  exact kw_vret hx hb hr hlocks I _ rfl h (kn_dec tX9_readsSeeker 45 rfl)

/-! X9_hillPart -/
abbrev rmX9_hillPart : Room := { frames := 5, cells := 0, slots := 0, locals := 113 }
def PX9_hillPart  (v_m : OV) (a1 : Int32) (post : OV → Prop) : Prop := ((a1 = (0 : Int32) → (PX9_amount v_m ((0 : Int32)) ((99 : Int32)) (fun r3 v_m2 => (∀ v_m5 : OV, v_m5 = sa v_m2 20 (upd (v_m2.2.1 20) ((0 : Int32)).toNatClampNeg r3) → (PX9_amount v_m5 ((1 : Int32)) ((50 : Int32)) (fun r7 v_m6 => (∀ v_m9 : OV, v_m9 = sa v_m6 20 (upd (v_m6.2.1 20) ((1 : Int32)).toNatClampNeg r7) → (PX9_amount v_m9 ((0 : Int32)) ((99 : Int32)) (fun r11 v_m10 => (∀ v_m13 : OV, v_m13 = sa v_m10 20 (upd (v_m10.2.1 20) ((2 : Int32)).toNatClampNeg r11) → post v_m13)))))))))) ∧ (¬ a1 = (0 : Int32) → ((a1 = (1 : Int32) → (∀ x15 : Int32, x15 = (v_m.2.1 20 ((3 : Int32)).toNatClampNeg) → (PX9_amount v_m ((0 : Int32)) ((99 : Int32)) (fun r17 v_m16 => (vp_in x15 10 ∧ (∀ v_m20 : OV, v_m20 = sa v_m16 21 (upd (v_m16.2.1 21) x15.toNatClampNeg r17) → (PX9_amount v_m20 ((1 : Int32)) ((20 : Int32)) (fun r22 v_m21 => (vp_in x15 10 ∧ (∀ v_m25 : OV, v_m25 = sa v_m21 22 (upd (v_m21.2.1 22) x15.toNatClampNeg r22) → (PX9_amount v_m25 ((0 : Int32)) ((9 : Int32)) (fun r27 v_m26 => (vp_in x15 10 ∧ (∀ v_m30 : OV, v_m30 = sa v_m26 23 (upd (v_m26.2.1 23) x15.toNatClampNeg r27) → (∀ x31 : Int32, x31 = ((v_m30.2.1 20 ((3 : Int32)).toNatClampNeg) + ((1 : Int32))) → (∀ v_m32 : OV, v_m32 = sa v_m30 20 (upd (v_m30.2.1 20) ((3 : Int32)).toNatClampNeg x31) → post v_m32)))))))))))))))) ∧ (¬ a1 = (1 : Int32) → ((a1 = (2 : Int32) → (PX9_amount v_m ((0 : Int32)) ((99 : Int32)) (fun r35 v_m34 => (vp_in (v_m.2.1 20 ((4 : Int32)).toNatClampNeg) 6 ∧ (∀ v_m38 : OV, v_m38 = sa v_m34 24 (upd (v_m34.2.1 24) (v_m.2.1 20 ((4 : Int32)).toNatClampNeg).toNatClampNeg r35) → (∀ x39 : Int32, x39 = ((v_m38.2.1 20 ((4 : Int32)).toNatClampNeg) + ((1 : Int32))) → (∀ v_m40 : OV, v_m40 = sa v_m38 20 (upd (v_m38.2.1 20) ((4 : Int32)).toNatClampNeg x39) → post v_m40))))))) ∧ (¬ a1 = (2 : Int32) → ((a1 = (3 : Int32) → (PX9_readsSeeker v_m (fun v_m42 => post v_m42))) ∧ (¬ a1 = (3 : Int32) → ((a1 = (4 : Int32) → (PX9_amount v_m ((0 : Int32)) ((99 : Int32)) (fun r46 v_m45 => (vp_in (v_m.2.1 20 ((6 : Int32)).toNatClampNeg) 8 ∧ (∀ v_m49 : OV, v_m49 = sa v_m45 29 (upd (v_m45.2.1 29) (v_m.2.1 20 ((6 : Int32)).toNatClampNeg).toNatClampNeg r46) → (∀ x50 : Int32, x50 = ((v_m49.2.1 20 ((6 : Int32)).toNatClampNeg) + ((1 : Int32))) → (∀ v_m51 : OV, v_m51 = sa v_m49 20 (upd (v_m49.2.1 20) ((6 : Int32)).toNatClampNeg x50) → post v_m51))))))) ∧ (¬ a1 = (4 : Int32) → (PX9_amount v_m ((0 : Int32)) ((v_m.2.1 20 ((3 : Int32)).toNatClampNeg) - ((1 : Int32))) (fun r53 v_m52 => (∀ v_m55 : OV, v_m55 = sa v_m52 20 (upd (v_m52.2.1 20) ((7 : Int32)).toNatClampNeg r53) → post v_m55)))))))))))))
set_option maxRecDepth 100000 in
set_option maxHeartbeats 1000000 in
theorem ctX9_hillPart {l : Launch} {D : va_G} {tc : Nat → ClassId} {Z : (Nat → Nat) × (Nat → Nat)}  {ad_m : Nat → Nat} {v_m : OV} {a1 : Int32}    {post : OV → Prop} (h : PX9_hillPart  v_m a1 post) : CTv l D tc Z yX9_hillPart (Cond.code yX9_hillPart cX9_hillPart 3 none :: kn_all) rmX9_hillPart 0 0 [.ref (ad_m 0), .int a1] [(kModel, ad_m, v_m)] (fun (u : OV) => [(kModel, ad_m, u)]) (fun (u : OV) => post u) := by
  refine kn_ofv (cc := cX9_hillPart) (nL := 3) (ret := none) (lv := [(0, .ref (ad_m 0)), (1, .int a1)]) (by decide) (Nat.le_of_ble_eq_true rfl) rfl (fun p e s m below meth c ls X I hl _ => ?_)
  obtain ⟨S0, hr, hlocks, hK, hZ, hA⟩ := id X
  obtain ⟨hx, hb, hml, hown, hts⟩ := id S0
  unfold PX9_hillPart at h
  refine lv_iload_n hx hb (kn_dec tX9_hillPart_t0 0 rfl) rfl (lv_at hl 1 rfl) ?_
  rcases Classical.em (a1 = (0 : Int32)) with c1 | c1
  · have h := h.1 c1
    refine lv_tableIn (off := 35) (tgt := 36) hx hb (kn_dec tX9_hillPart_t0 1 rfl) (by rw [c1]; decide) (by rw [c1]; decide) (by rw [c1]; rfl) (by decide) ?_
    refine lv_aload_n hx hb (kn_dec tX9_hillPart_t0 2 rfl) rfl (lv_at hl 0 rfl) ?_
    refine kw_getl hx hb hts inX9 hown hK I 0 rfl rfl 20 (by decide) rfl (hts _ q4_220) (kn_dec tX9_hillPart_t0 3 rfl) rfl ?_
    refine lv_iconst (v := (0)) hx hb (kn_dec tX9_hillPart_t0 4 rfl) (by decide) ?_
    refine lv_aload_n hx hb (kn_dec tX9_hillPart_t0 5 rfl) rfl (lv_at hl 0 rfl) ?_
    refine lv_iconst (v := (0)) hx hb (kn_dec tX9_hillPart_t0 6 rfl) (by decide) ?_
    refine lv_bipush (v := (99)) hx hb (kn_dec tX9_hillPart_t0 7 rfl) (by decide) ?_
    refine kw_calli (wc := [(kModel, ad_m, _)]) (wr := []) I hA [0] [] rfl rfl (by decide) (by decide) (kn_runV (As := [.int _, .int _]) S0 hK hZ hA I ((ctX9_amount h).met _) (kn_cwV 2 hts q5_226 q5_228 q0_39 q1_10 q5_229 rfl rfl (by decide +kernel) ⟨(Nat.le_of_ble_eq_true rfl), (Nat.le_of_ble_eq_true rfl)⟩) [0] rfl (by decide) 0 rfl rfl rfl rfl hl.1 rfl (Nat.le_of_ble_eq_true rfl) (kn_dec tX9_hillPart_t0 8 rfl) ⟨(Nat.le_of_ble_eq_true rfl), (Nat.le_of_ble_eq_true rfl)⟩) (fun r3 u4 H locs h I => ?_)
    have I : kn_I D tc (kn_A _ s.heap.size) s.heap [(kModel, ad_m, _)] _ _ := I
    refine kw_iast hx hb hK I 0 rfl 20 8 (List.mem_of_getElem? (i := 19) rfl) ukModel_20 (by unfold vp_in; decide) (kn_dec tX9_hillPart_t0 9 rfl) (fun v_m5 ev_m5 H locs I => ?_)
    have h := h v_m5 ev_m5
    have I : kn_I D tc (kn_A _ s.heap.size) s.heap [(kModel, ad_m, _)] _ _ := I
    refine lv_aload_n hx hb (kn_dec tX9_hillPart_t0 10 rfl) rfl (lv_at hl 0 rfl) ?_
    refine kw_getl hx hb hts inX9 hown hK I 0 rfl rfl 20 (by decide) rfl (hts _ q4_220) (kn_dec tX9_hillPart_t0 11 rfl) rfl ?_
    refine lv_iconst (v := (1)) hx hb (kn_dec tX9_hillPart_t0 12 rfl) (by decide) ?_
    refine lv_aload_n hx hb (kn_dec tX9_hillPart_t0 13 rfl) rfl (lv_at hl 0 rfl) ?_
    refine lv_iconst (v := (1)) hx hb (kn_dec tX9_hillPart_t0 14 rfl) (by decide) ?_
    refine lv_bipush (v := (50)) hx hb (kn_dec tX9_hillPart_t0 15 rfl) (by decide) ?_
    refine kw_calli (wc := [(kModel, ad_m, _)]) (wr := []) I hA [0] [] rfl rfl (by decide) (by decide) (kn_runV (As := [.int _, .int _]) S0 hK hZ hA I ((ctX9_amount h).met _) (kn_cwV 2 hts q5_226 q5_228 q0_39 q1_10 q5_229 rfl rfl (by decide +kernel) ⟨(Nat.le_of_ble_eq_true rfl), (Nat.le_of_ble_eq_true rfl)⟩) [0] rfl (by decide) 0 rfl rfl rfl rfl hl.1 rfl (Nat.le_of_ble_eq_true rfl) (kn_dec tX9_hillPart_t0 16 rfl) ⟨(Nat.le_of_ble_eq_true rfl), (Nat.le_of_ble_eq_true rfl)⟩) (fun r7 u8 H locs h I => ?_)
    have I : kn_I D tc (kn_A _ s.heap.size) s.heap [(kModel, ad_m, _)] _ _ := I
    refine kw_iast hx hb hK I 0 rfl 20 8 (List.mem_of_getElem? (i := 19) rfl) ukModel_20 (by unfold vp_in; decide) (kn_dec tX9_hillPart_t0 17 rfl) (fun v_m9 ev_m9 H locs I => ?_)
    have h := h v_m9 ev_m9
    have I : kn_I D tc (kn_A _ s.heap.size) s.heap [(kModel, ad_m, _)] _ _ := I
    refine lv_aload_n hx hb (kn_dec tX9_hillPart_t0 18 rfl) rfl (lv_at hl 0 rfl) ?_
    refine kw_getl hx hb hts inX9 hown hK I 0 rfl rfl 20 (by decide) rfl (hts _ q4_220) (kn_dec tX9_hillPart_t0 19 rfl) rfl ?_
    refine lv_iconst (v := (2)) hx hb (kn_dec tX9_hillPart_t0 20 rfl) (by decide) ?_
    refine lv_aload_n hx hb (kn_dec tX9_hillPart_t0 21 rfl) rfl (lv_at hl 0 rfl) ?_
    refine lv_iconst (v := (0)) hx hb (kn_dec tX9_hillPart_t0 22 rfl) (by decide) ?_
    refine lv_bipush (v := (99)) hx hb (kn_dec tX9_hillPart_t0 23 rfl) (by decide) ?_
    refine kw_calli (wc := [(kModel, ad_m, _)]) (wr := []) I hA [0] [] rfl rfl (by decide) (by decide) (kn_runV (As := [.int _, .int _]) S0 hK hZ hA I ((ctX9_amount h).met _) (kn_cwV 2 hts q5_226 q5_228 q0_39 q1_10 q5_229 rfl rfl (by decide +kernel) ⟨(Nat.le_of_ble_eq_true rfl), (Nat.le_of_ble_eq_true rfl)⟩) [0] rfl (by decide) 0 rfl rfl rfl rfl hl.1 rfl (Nat.le_of_ble_eq_true rfl) (kn_dec tX9_hillPart_t0 24 rfl) ⟨(Nat.le_of_ble_eq_true rfl), (Nat.le_of_ble_eq_true rfl)⟩) (fun r11 u12 H locs h I => ?_)
    have I : kn_I D tc (kn_A _ s.heap.size) s.heap [(kModel, ad_m, _)] _ _ := I
    refine kw_iast hx hb hK I 0 rfl 20 8 (List.mem_of_getElem? (i := 19) rfl) ukModel_20 (by unfold vp_in; decide) (kn_dec tX9_hillPart_t0 25 rfl) (fun v_m13 ev_m13 H locs I => ?_)
    have h := h v_m13 ev_m13
    have I : kn_I D tc (kn_A _ s.heap.size) s.heap [(kModel, ad_m, _)] _ _ := I
    refine lv_goto (tgt := 228) hx hb (kn_dec tX9_hillPart_t0 26 rfl) (by decide) ?_
    exact kw_vret hx hb hr hlocks I _ rfl h (kn_dec tX9_hillPart_t2 1 rfl)
  · have h := h.2 c1
    rcases Classical.em (a1 = (1 : Int32)) with c14 | c14
    · have h := h.1 c14
      refine lv_tableIn (off := 77) (tgt := 78) hx hb (kn_dec tX9_hillPart_t0 1 rfl) (by rw [c14]; decide) (by rw [c14]; decide) (by rw [c14]; rfl) (by decide) ?_
      refine lv_aload_n hx hb (kn_dec tX9_hillPart_t0 27 rfl) rfl (lv_at hl 0 rfl) ?_
      refine kw_getl hx hb hts inX9 hown hK I 0 rfl rfl 20 (by decide) rfl (hts _ q4_220) (kn_dec tX9_hillPart_t0 28 rfl) rfl ?_
      refine lv_iconst (v := (3)) hx hb (kn_dec tX9_hillPart_t0 29 rfl) (by decide) ?_
      refine kw_iald hx hb hK I 0 rfl 20 8 (List.mem_of_getElem? (i := 19) rfl) (by unfold vp_in; decide) (kn_dec tX9_hillPart_t0 30 rfl) ?_
      refine lv_topi (fun x15 ex15 => ?_)
      have h := h x15 ex15
      refine lv_istore_n (lv' := [(2, .int _), (0, .ref (ad_m 0)), (1, .int _)]) hx hb (kn_dec tX9_hillPart_t0 31 rfl) rfl hl (by decide) rfl (fun ls hl => ?_)
      refine lv_aload_n hx hb (kn_dec tX9_hillPart_t0 32 rfl) rfl (lv_at hl 1 rfl) ?_
      refine kw_getl hx hb hts inX9 hown hK I 0 rfl rfl 21 (by decide) rfl (hts _ q4_221) (kn_dec tX9_hillPart_t0 33 rfl) rfl ?_
      refine lv_iload_n hx hb (kn_dec tX9_hillPart_t0 34 rfl) rfl (lv_at hl 0 rfl) ?_
      refine lv_aload_n hx hb (kn_dec tX9_hillPart_t0 35 rfl) rfl (lv_at hl 1 rfl) ?_
      refine lv_iconst (v := (0)) hx hb (kn_dec tX9_hillPart_t0 36 rfl) (by decide) ?_
      refine lv_bipush (v := (99)) hx hb (kn_dec tX9_hillPart_t0 37 rfl) (by decide) ?_
      refine kw_calli (wc := [(kModel, ad_m, _)]) (wr := []) I hA [0] [] rfl rfl (by decide) (by decide) (kn_runV (As := [.int _, .int _]) S0 hK hZ hA I ((ctX9_amount h).met _) (kn_cwV 2 hts q5_226 q5_228 q0_39 q1_10 q5_229 rfl rfl (by decide +kernel) ⟨(Nat.le_of_ble_eq_true rfl), (Nat.le_of_ble_eq_true rfl)⟩) [0] rfl (by decide) 0 rfl rfl rfl rfl hl.1 rfl (Nat.le_of_ble_eq_true rfl) (kn_dec tX9_hillPart_t0 38 rfl) ⟨(Nat.le_of_ble_eq_true rfl), (Nat.le_of_ble_eq_true rfl)⟩) (fun r17 u18 H locs h I => ?_)
      have I : kn_I D tc (kn_A _ s.heap.size) s.heap [(kModel, ad_m, _)] _ _ := I
      obtain ⟨hs19, h⟩ := h
      refine kw_iast hx hb hK I 0 rfl 21 10 (List.mem_of_getElem? (i := 20) rfl) ukModel_21 hs19 (kn_dec tX9_hillPart_t0 39 rfl) (fun v_m20 ev_m20 H locs I => ?_)
      have h := h v_m20 ev_m20
      have I : kn_I D tc (kn_A _ s.heap.size) s.heap [(kModel, ad_m, _)] _ _ := I
      refine lv_aload_n hx hb (kn_dec tX9_hillPart_t0 40 rfl) rfl (lv_at hl 1 rfl) ?_
      refine kw_getl hx hb hts inX9 hown hK I 0 rfl rfl 22 (by decide) rfl (hts _ q4_222) (kn_dec tX9_hillPart_t0 41 rfl) rfl ?_
      refine lv_iload_n hx hb (kn_dec tX9_hillPart_t0 42 rfl) rfl (lv_at hl 0 rfl) ?_
      refine lv_aload_n hx hb (kn_dec tX9_hillPart_t0 43 rfl) rfl (lv_at hl 1 rfl) ?_
      refine lv_iconst (v := (1)) hx hb (kn_dec tX9_hillPart_t0 44 rfl) (by decide) ?_
      refine lv_bipush (v := (20)) hx hb (kn_dec tX9_hillPart_t0 45 rfl) (by decide) ?_
      refine kw_calli (wc := [(kModel, ad_m, _)]) (wr := []) I hA [0] [] rfl rfl (by decide) (by decide) (kn_runV (As := [.int _, .int _]) S0 hK hZ hA I ((ctX9_amount h).met _) (kn_cwV 2 hts q5_226 q5_228 q0_39 q1_10 q5_229 rfl rfl (by decide +kernel) ⟨(Nat.le_of_ble_eq_true rfl), (Nat.le_of_ble_eq_true rfl)⟩) [0] rfl (by decide) 0 rfl rfl rfl rfl hl.1 rfl (Nat.le_of_ble_eq_true rfl) (kn_dec tX9_hillPart_t0 46 rfl) ⟨(Nat.le_of_ble_eq_true rfl), (Nat.le_of_ble_eq_true rfl)⟩) (fun r22 u23 H locs h I => ?_)
      have I : kn_I D tc (kn_A _ s.heap.size) s.heap [(kModel, ad_m, _)] _ _ := I
      obtain ⟨hs24, h⟩ := h
      refine kw_iast hx hb hK I 0 rfl 22 10 (List.mem_of_getElem? (i := 21) rfl) ukModel_22 hs24 (kn_dec tX9_hillPart_t0 47 rfl) (fun v_m25 ev_m25 H locs I => ?_)
      have h := h v_m25 ev_m25
      have I : kn_I D tc (kn_A _ s.heap.size) s.heap [(kModel, ad_m, _)] _ _ := I
      refine lv_aload_n hx hb (kn_dec tX9_hillPart_t0 48 rfl) rfl (lv_at hl 1 rfl) ?_
      refine kw_getl hx hb hts inX9 hown hK I 0 rfl rfl 23 (by decide) rfl (hts _ q4_223) (kn_dec tX9_hillPart_t0 49 rfl) rfl ?_
      refine lv_iload_n hx hb (kn_dec tX9_hillPart_t0 50 rfl) rfl (lv_at hl 0 rfl) ?_
      refine lv_aload_n hx hb (kn_dec tX9_hillPart_t0 51 rfl) rfl (lv_at hl 1 rfl) ?_
      refine lv_iconst (v := (0)) hx hb (kn_dec tX9_hillPart_t0 52 rfl) (by decide) ?_
      refine lv_bipush (v := (9)) hx hb (kn_dec tX9_hillPart_t0 53 rfl) (by decide) ?_
      refine kw_calli (wc := [(kModel, ad_m, _)]) (wr := []) I hA [0] [] rfl rfl (by decide) (by decide) (kn_runV (As := [.int _, .int _]) S0 hK hZ hA I ((ctX9_amount h).met _) (kn_cwV 2 hts q5_226 q5_228 q0_39 q1_10 q5_229 rfl rfl (by decide +kernel) ⟨(Nat.le_of_ble_eq_true rfl), (Nat.le_of_ble_eq_true rfl)⟩) [0] rfl (by decide) 0 rfl rfl rfl rfl hl.1 rfl (Nat.le_of_ble_eq_true rfl) (kn_dec tX9_hillPart_t0 54 rfl) ⟨(Nat.le_of_ble_eq_true rfl), (Nat.le_of_ble_eq_true rfl)⟩) (fun r27 u28 H locs h I => ?_)
      have I : kn_I D tc (kn_A _ s.heap.size) s.heap [(kModel, ad_m, _)] _ _ := I
      obtain ⟨hs29, h⟩ := h
      refine kw_iast hx hb hK I 0 rfl 23 10 (List.mem_of_getElem? (i := 22) rfl) ukModel_23 hs29 (kn_dec tX9_hillPart_t0 55 rfl) (fun v_m30 ev_m30 H locs I => ?_)
      have h := h v_m30 ev_m30
      have I : kn_I D tc (kn_A _ s.heap.size) s.heap [(kModel, ad_m, _)] _ _ := I
      refine lv_aload_n hx hb (kn_dec tX9_hillPart_t0 56 rfl) rfl (lv_at hl 1 rfl) ?_
      refine kw_getl hx hb hts inX9 hown hK I 0 rfl rfl 20 (by decide) rfl (hts _ q4_220) (kn_dec tX9_hillPart_t0 57 rfl) rfl ?_
      refine lv_iconst (v := (3)) hx hb (kn_dec tX9_hillPart_t0 58 rfl) (by decide) ?_
      refine lv_dup2_11 hx hb (kn_dec tX9_hillPart_t0 59 rfl) rfl rfl ?_
      refine kw_iald hx hb hK I 0 rfl 20 8 (List.mem_of_getElem? (i := 19) rfl) (by unfold vp_in; decide) (kn_dec tX9_hillPart_t1 0 rfl) ?_
      refine lv_iconst (v := (1)) hx hb (kn_dec tX9_hillPart_t1 1 rfl) (by decide) ?_
      refine lv_iadd hx hb (kn_dec tX9_hillPart_t1 2 rfl) ?_
      refine lv_topi (fun x31 ex31 => ?_)
      have h := h x31 ex31
      refine kw_iast hx hb hK I 0 rfl 20 8 (List.mem_of_getElem? (i := 19) rfl) ukModel_20 (by unfold vp_in; decide) (kn_dec tX9_hillPart_t1 3 rfl) (fun v_m32 ev_m32 H locs I => ?_)
      have h := h v_m32 ev_m32
      have I : kn_I D tc (kn_A _ s.heap.size) s.heap [(kModel, ad_m, _)] _ _ := I
      refine lv_goto (tgt := 228) hx hb (kn_dec tX9_hillPart_t1 4 rfl) (by decide) ?_
      exact kw_vret hx hb hr hlocks I _ rfl h (kn_dec tX9_hillPart_t2 1 rfl)
    · have h := h.2 c14
      rcases Classical.em (a1 = (2 : Int32)) with c33 | c33
      · have h := h.1 c33
        refine lv_tableIn (off := 136) (tgt := 137) hx hb (kn_dec tX9_hillPart_t0 1 rfl) (by rw [c33]; decide) (by rw [c33]; decide) (by rw [c33]; rfl) (by decide) ?_
        refine lv_aload_n hx hb (kn_dec tX9_hillPart_t1 5 rfl) rfl (lv_at hl 0 rfl) ?_
        refine kw_getl hx hb hts inX9 hown hK I 0 rfl rfl 24 (by decide) rfl (hts _ q4_224) (kn_dec tX9_hillPart_t1 6 rfl) rfl ?_
        refine lv_aload_n hx hb (kn_dec tX9_hillPart_t1 7 rfl) rfl (lv_at hl 0 rfl) ?_
        refine kw_getl hx hb hts inX9 hown hK I 0 rfl rfl 20 (by decide) rfl (hts _ q4_220) (kn_dec tX9_hillPart_t1 8 rfl) rfl ?_
        refine lv_iconst (v := (4)) hx hb (kn_dec tX9_hillPart_t1 9 rfl) (by decide) ?_
        refine kw_iald hx hb hK I 0 rfl 20 8 (List.mem_of_getElem? (i := 19) rfl) (by unfold vp_in; decide) (kn_dec tX9_hillPart_t1 10 rfl) ?_
        refine lv_aload_n hx hb (kn_dec tX9_hillPart_t1 11 rfl) rfl (lv_at hl 0 rfl) ?_
        refine lv_iconst (v := (0)) hx hb (kn_dec tX9_hillPart_t1 12 rfl) (by decide) ?_
        refine lv_bipush (v := (99)) hx hb (kn_dec tX9_hillPart_t1 13 rfl) (by decide) ?_
        refine kw_calli (wc := [(kModel, ad_m, _)]) (wr := []) I hA [0] [] rfl rfl (by decide) (by decide) (kn_runV (As := [.int _, .int _]) S0 hK hZ hA I ((ctX9_amount h).met _) (kn_cwV 2 hts q5_226 q5_228 q0_39 q1_10 q5_229 rfl rfl (by decide +kernel) ⟨(Nat.le_of_ble_eq_true rfl), (Nat.le_of_ble_eq_true rfl)⟩) [0] rfl (by decide) 0 rfl rfl rfl rfl hl.1 rfl (Nat.le_of_ble_eq_true rfl) (kn_dec tX9_hillPart_t1 14 rfl) ⟨(Nat.le_of_ble_eq_true rfl), (Nat.le_of_ble_eq_true rfl)⟩) (fun r35 u36 H locs h I => ?_)
        have I : kn_I D tc (kn_A _ s.heap.size) s.heap [(kModel, ad_m, _)] _ _ := I
        obtain ⟨hs37, h⟩ := h
        refine kw_iast hx hb hK I 0 rfl 24 6 (List.mem_of_getElem? (i := 23) rfl) ukModel_24 hs37 (kn_dec tX9_hillPart_t1 15 rfl) (fun v_m38 ev_m38 H locs I => ?_)
        have h := h v_m38 ev_m38
        have I : kn_I D tc (kn_A _ s.heap.size) s.heap [(kModel, ad_m, _)] _ _ := I
        refine lv_aload_n hx hb (kn_dec tX9_hillPart_t1 16 rfl) rfl (lv_at hl 0 rfl) ?_
        refine kw_getl hx hb hts inX9 hown hK I 0 rfl rfl 20 (by decide) rfl (hts _ q4_220) (kn_dec tX9_hillPart_t1 17 rfl) rfl ?_
        refine lv_iconst (v := (4)) hx hb (kn_dec tX9_hillPart_t1 18 rfl) (by decide) ?_
        refine lv_dup2_11 hx hb (kn_dec tX9_hillPart_t1 19 rfl) rfl rfl ?_
        refine kw_iald hx hb hK I 0 rfl 20 8 (List.mem_of_getElem? (i := 19) rfl) (by unfold vp_in; decide) (kn_dec tX9_hillPart_t1 20 rfl) ?_
        refine lv_iconst (v := (1)) hx hb (kn_dec tX9_hillPart_t1 21 rfl) (by decide) ?_
        refine lv_iadd hx hb (kn_dec tX9_hillPart_t1 22 rfl) ?_
        refine lv_topi (fun x39 ex39 => ?_)
        have h := h x39 ex39
        refine kw_iast hx hb hK I 0 rfl 20 8 (List.mem_of_getElem? (i := 19) rfl) ukModel_20 (by unfold vp_in; decide) (kn_dec tX9_hillPart_t1 23 rfl) (fun v_m40 ev_m40 H locs I => ?_)
        have h := h v_m40 ev_m40
        have I : kn_I D tc (kn_A _ s.heap.size) s.heap [(kModel, ad_m, _)] _ _ := I
        refine lv_goto (tgt := 228) hx hb (kn_dec tX9_hillPart_t1 24 rfl) (by decide) ?_
        exact kw_vret hx hb hr hlocks I _ rfl h (kn_dec tX9_hillPart_t2 1 rfl)
      · have h := h.2 c33
        rcases Classical.em (a1 = (3 : Int32)) with c41 | c41
        · have h := h.1 c41
          refine lv_tableIn (off := 167) (tgt := 168) hx hb (kn_dec tX9_hillPart_t0 1 rfl) (by rw [c41]; decide) (by rw [c41]; decide) (by rw [c41]; rfl) (by decide) ?_
          refine lv_aload_n hx hb (kn_dec tX9_hillPart_t1 25 rfl) rfl (lv_at hl 0 rfl) ?_
          refine kw_callv (wc := [(kModel, ad_m, _)]) (wr := []) I hA [0] [] rfl rfl (by decide) (by decide) (kn_runV (As := []) S0 hK hZ hA I ((ctX9_readsSeeker h).met _) (kn_cwV 0 hts q6_4 q6_6 q0_42 q1_10 q6_7 rfl rfl (by decide +kernel) ⟨(Nat.le_of_ble_eq_true rfl), (Nat.le_of_ble_eq_true rfl)⟩) [0] rfl (by decide) 0 rfl rfl rfl rfl hl.1 rfl (Nat.le_of_ble_eq_true rfl) (kn_dec tX9_hillPart_t1 26 rfl) ⟨(Nat.le_of_ble_eq_true rfl), (Nat.le_of_ble_eq_true rfl)⟩) (fun u43 H locs h I => ?_)
          have I : kn_I D tc (kn_A _ s.heap.size) s.heap [(kModel, ad_m, _)] _ _ := I
          refine lv_goto (tgt := 228) hx hb (kn_dec tX9_hillPart_t1 27 rfl) (by decide) ?_
          exact kw_vret hx hb hr hlocks I _ rfl h (kn_dec tX9_hillPart_t2 1 rfl)
        · have h := h.2 c41
          rcases Classical.em (a1 = (4 : Int32)) with c44 | c44
          · have h := h.1 c44
            refine lv_tableIn (off := 174) (tgt := 175) hx hb (kn_dec tX9_hillPart_t0 1 rfl) (by rw [c44]; decide) (by rw [c44]; decide) (by rw [c44]; rfl) (by decide) ?_
            refine lv_aload_n hx hb (kn_dec tX9_hillPart_t1 28 rfl) rfl (lv_at hl 0 rfl) ?_
            refine kw_getl hx hb hts inX9 hown hK I 0 rfl rfl 29 (by decide) rfl (hts _ q4_229) (kn_dec tX9_hillPart_t1 29 rfl) rfl ?_
            refine lv_aload_n hx hb (kn_dec tX9_hillPart_t1 30 rfl) rfl (lv_at hl 0 rfl) ?_
            refine kw_getl hx hb hts inX9 hown hK I 0 rfl rfl 20 (by decide) rfl (hts _ q4_220) (kn_dec tX9_hillPart_t1 31 rfl) rfl ?_
            refine lv_bipush (v := (6)) hx hb (kn_dec tX9_hillPart_t1 32 rfl) (by decide) ?_
            refine kw_iald hx hb hK I 0 rfl 20 8 (List.mem_of_getElem? (i := 19) rfl) (by unfold vp_in; decide) (kn_dec tX9_hillPart_t1 33 rfl) ?_
            refine lv_aload_n hx hb (kn_dec tX9_hillPart_t1 34 rfl) rfl (lv_at hl 0 rfl) ?_
            refine lv_iconst (v := (0)) hx hb (kn_dec tX9_hillPart_t1 35 rfl) (by decide) ?_
            refine lv_bipush (v := (99)) hx hb (kn_dec tX9_hillPart_t1 36 rfl) (by decide) ?_
            refine kw_calli (wc := [(kModel, ad_m, _)]) (wr := []) I hA [0] [] rfl rfl (by decide) (by decide) (kn_runV (As := [.int _, .int _]) S0 hK hZ hA I ((ctX9_amount h).met _) (kn_cwV 2 hts q5_226 q5_228 q0_39 q1_10 q5_229 rfl rfl (by decide +kernel) ⟨(Nat.le_of_ble_eq_true rfl), (Nat.le_of_ble_eq_true rfl)⟩) [0] rfl (by decide) 0 rfl rfl rfl rfl hl.1 rfl (Nat.le_of_ble_eq_true rfl) (kn_dec tX9_hillPart_t1 37 rfl) ⟨(Nat.le_of_ble_eq_true rfl), (Nat.le_of_ble_eq_true rfl)⟩) (fun r46 u47 H locs h I => ?_)
            have I : kn_I D tc (kn_A _ s.heap.size) s.heap [(kModel, ad_m, _)] _ _ := I
            obtain ⟨hs48, h⟩ := h
            refine kw_iast hx hb hK I 0 rfl 29 8 (List.mem_of_getElem? (i := 28) rfl) ukModel_29 hs48 (kn_dec tX9_hillPart_t1 38 rfl) (fun v_m49 ev_m49 H locs I => ?_)
            have h := h v_m49 ev_m49
            have I : kn_I D tc (kn_A _ s.heap.size) s.heap [(kModel, ad_m, _)] _ _ := I
            refine lv_aload_n hx hb (kn_dec tX9_hillPart_t1 39 rfl) rfl (lv_at hl 0 rfl) ?_
            refine kw_getl hx hb hts inX9 hown hK I 0 rfl rfl 20 (by decide) rfl (hts _ q4_220) (kn_dec tX9_hillPart_t1 40 rfl) rfl ?_
            refine lv_bipush (v := (6)) hx hb (kn_dec tX9_hillPart_t1 41 rfl) (by decide) ?_
            refine lv_dup2_11 hx hb (kn_dec tX9_hillPart_t1 42 rfl) rfl rfl ?_
            refine kw_iald hx hb hK I 0 rfl 20 8 (List.mem_of_getElem? (i := 19) rfl) (by unfold vp_in; decide) (kn_dec tX9_hillPart_t1 43 rfl) ?_
            refine lv_iconst (v := (1)) hx hb (kn_dec tX9_hillPart_t1 44 rfl) (by decide) ?_
            refine lv_iadd hx hb (kn_dec tX9_hillPart_t1 45 rfl) ?_
            refine lv_topi (fun x50 ex50 => ?_)
            have h := h x50 ex50
            refine kw_iast hx hb hK I 0 rfl 20 8 (List.mem_of_getElem? (i := 19) rfl) ukModel_20 (by unfold vp_in; decide) (kn_dec tX9_hillPart_t1 46 rfl) (fun v_m51 ev_m51 H locs I => ?_)
            have h := h v_m51 ev_m51
            have I : kn_I D tc (kn_A _ s.heap.size) s.heap [(kModel, ad_m, _)] _ _ := I
            refine lv_goto (tgt := 228) hx hb (kn_dec tX9_hillPart_t1 47 rfl) (by decide) ?_
            exact kw_vret hx hb hr hlocks I _ rfl h (kn_dec tX9_hillPart_t2 1 rfl)
          · have h := h.2 c44
            refine lv_tableOut (tgt := 208) hx hb (kn_dec tX9_hillPart_t0 1 rfl) (by have z0 := kn_nei (k := 0) c1 (by decide); have z1 := kn_nei (k := 1) c14 (by decide); have z2 := kn_nei (k := 2) c33 (by decide); have z3 := kn_nei (k := 3) c41 (by decide); have z4 := kn_nei (k := 4) c44 (by decide); omega) (by decide) ?_
            refine lv_aload_n hx hb (kn_dec tX9_hillPart_t1 48 rfl) rfl (lv_at hl 0 rfl) ?_
            refine kw_getl hx hb hts inX9 hown hK I 0 rfl rfl 20 (by decide) rfl (hts _ q4_220) (kn_dec tX9_hillPart_t1 49 rfl) rfl ?_
            refine lv_bipush (v := (7)) hx hb (kn_dec tX9_hillPart_t1 50 rfl) (by decide) ?_
            refine lv_aload_n hx hb (kn_dec tX9_hillPart_t1 51 rfl) rfl (lv_at hl 0 rfl) ?_
            refine lv_iconst (v := (0)) hx hb (kn_dec tX9_hillPart_t1 52 rfl) (by decide) ?_
            refine lv_aload_n hx hb (kn_dec tX9_hillPart_t1 53 rfl) rfl (lv_at hl 0 rfl) ?_
            refine kw_getl hx hb hts inX9 hown hK I 0 rfl rfl 20 (by decide) rfl (hts _ q4_220) (kn_dec tX9_hillPart_t1 54 rfl) rfl ?_
            refine lv_iconst (v := (3)) hx hb (kn_dec tX9_hillPart_t1 55 rfl) (by decide) ?_
            refine kw_iald hx hb hK I 0 rfl 20 8 (List.mem_of_getElem? (i := 19) rfl) (by unfold vp_in; decide) (kn_dec tX9_hillPart_t1 56 rfl) ?_
            refine lv_iconst (v := (1)) hx hb (kn_dec tX9_hillPart_t1 57 rfl) (by decide) ?_
            refine lv_isub hx hb (kn_dec tX9_hillPart_t1 58 rfl) ?_
            refine kw_calli (wc := [(kModel, ad_m, _)]) (wr := []) I hA [0] [] rfl rfl (by decide) (by decide) (kn_runV (As := [.int _, .int _]) S0 hK hZ hA I ((ctX9_amount h).met _) (kn_cwV 2 hts q5_226 q5_228 q0_39 q1_10 q5_229 rfl rfl (by decide +kernel) ⟨(Nat.le_of_ble_eq_true rfl), (Nat.le_of_ble_eq_true rfl)⟩) [0] rfl (by decide) 0 rfl rfl rfl rfl hl.1 rfl (Nat.le_of_ble_eq_true rfl) (kn_dec tX9_hillPart_t1 59 rfl) ⟨(Nat.le_of_ble_eq_true rfl), (Nat.le_of_ble_eq_true rfl)⟩) (fun r53 u54 H locs h I => ?_)
            have I : kn_I D tc (kn_A _ s.heap.size) s.heap [(kModel, ad_m, _)] _ _ := I
            refine kw_iast hx hb hK I 0 rfl 20 8 (List.mem_of_getElem? (i := 19) rfl) ukModel_20 (by unfold vp_in; decide) (kn_dec tX9_hillPart_t2 0 rfl) (fun v_m55 ev_m55 H locs I => ?_)
            have h := h v_m55 ev_m55
            have I : kn_I D tc (kn_A _ s.heap.size) s.heap [(kModel, ad_m, _)] _ _ := I
            exact kw_vret hx hb hr hlocks I _ rfl h (kn_dec tX9_hillPart_t2 1 rfl)

/-! X9_isFull -/
abbrev rmX9_isFull : Room := { frames := 0, cells := 0, slots := 0, locals := 0 }
def PX9_isFull_b24 (v_m : OV)  (post : Int32 → Prop) (t0 : Int32) (t1 : Int32) (y1 : Int32) : Prop := ((t0 = t1 → ((y1 = (1 : Int32) → ((¬ (v_m.2.1 20 ((3 : Int32)).toNatClampNeg) = ((10 : Int32)) → post ((0 : Int32))) ∧ ((v_m.2.1 20 ((3 : Int32)).toNatClampNeg) = ((10 : Int32)) → post ((1 : Int32))))) ∧ (¬ y1 = (1 : Int32) → ((y1 = (2 : Int32) → ((¬ (v_m.2.1 20 ((4 : Int32)).toNatClampNeg) = ((6 : Int32)) → post ((0 : Int32))) ∧ ((v_m.2.1 20 ((4 : Int32)).toNatClampNeg) = ((6 : Int32)) → post ((1 : Int32))))) ∧ (¬ y1 = (2 : Int32) → ((y1 = (3 : Int32) → ((¬ (v_m.2.1 20 ((5 : Int32)).toNatClampNeg) = ((4 : Int32)) → post ((0 : Int32))) ∧ ((v_m.2.1 20 ((5 : Int32)).toNatClampNeg) = ((4 : Int32)) → post ((1 : Int32))))) ∧ (¬ y1 = (3 : Int32) → ((y1 = (4 : Int32) → ((¬ (v_m.2.1 20 ((6 : Int32)).toNatClampNeg) = ((8 : Int32)) → post ((0 : Int32))) ∧ ((v_m.2.1 20 ((6 : Int32)).toNatClampNeg) = ((8 : Int32)) → post ((1 : Int32))))) ∧ (¬ y1 = (4 : Int32) → post ((0 : Int32))))))))))) ∧ (¬ t0 = t1 → post ((1 : Int32))))
set_option maxRecDepth 100000 in
set_option maxHeartbeats 1000000 in
theorem wX9_isFull_b24 {v_m : OV}  {post : Int32 → Prop} {ad_m : Nat → Nat} (X : kn_X p s m args meth c cX9_isFull 3 (some .boolean) RX9 kn_all D tc Z (kn_A w0 s.heap.size))    : ∀ (H : Heap) (locs : List Loc) (ls : Array Slot) (t0 : Int32) (t1 : Int32) (y1 : Int32), (hz_t0 : t0 = 0 ∨ t0 = 1) → (hz_t1 : t1 = 0 ∨ t1 = 1) → kn_I D tc (kn_A w0 s.heap.size) s.heap [(kModel, ad_m, v_m)] H locs → lv_has ls 3 [(0, .ref (ad_m 0)), (1, .int y1)] → PX9_isFull_b24 v_m post t0 t1 y1 → W p l e rmX9_isFull s m args below meth c H locs 0 0 (kn_Qi D tc w0 (fun (u : Unit) => [(kModel, ad_m, v_m)]) (fun (r : Int32) (u : Unit) => (r = 0 ∨ r = 1) ∧ post r) below args s 0 0) (F0 m 24 ls [.int t1, .int t0]) := by
  obtain ⟨S0, hr, hlocks, hK, hZ, hA⟩ := id X
  obtain ⟨hx, hb, hml, hown, hts⟩ := id S0
  intro H locs ls t0 t1 y1 hz_t0 hz_t1 I hl h
  unfold PX9_isFull_b24 at h
  refine lv_icmp_eq (tgt := 29) hx hb (kn_dec tX9_isFull 13 rfl) (by decide) (fun c1 => ?_) (fun c1 => ?_)
  · have h := h.1 c1
    refine lv_iload_n hx hb (kn_dec tX9_isFull 16 rfl) rfl (lv_at hl 1 rfl) ?_
    rcases Classical.em (y1 = (1 : Int32)) with c2 | c2
    · have h := h.1 c2
      refine lv_tableIn (off := 30) (tgt := 60) hx hb (kn_dec tX9_isFull 17 rfl) (by rw [c2]; decide) (by rw [c2]; decide) (by rw [c2]; rfl) (by decide) ?_
      refine lv_aload_n hx hb (kn_dec tX9_isFull 18 rfl) rfl (lv_at hl 0 rfl) ?_
      refine kw_getl hx hb hts inX9 hown hK I 0 rfl rfl 20 (by decide) rfl (hts _ q4_220) (kn_dec tX9_isFull 19 rfl) rfl ?_
      refine lv_iconst (v := (3)) hx hb (kn_dec tX9_isFull 20 rfl) (by decide) ?_
      refine kw_iald hx hb hK I 0 rfl 20 8 (List.mem_of_getElem? (i := 19) rfl) (by unfold vp_in; decide) (kn_dec tX9_isFull 21 rfl) ?_
      refine lv_bipush (v := (10)) hx hb (kn_dec tX9_isFull 22 rfl) (by decide) ?_
      refine lv_icmp_ne (tgt := 75) hx hb (kn_dec tX9_isFull 23 rfl) (by decide) (fun c3 => ?_) (fun c3 => ?_)
      · have h := h.1 c3
        refine lv_iconst (v := (0)) hx hb (kn_dec tX9_isFull 26 rfl) (by decide) ?_
        exact kw_zret hx hb hr (kn_nz (Or.inl rfl)) hlocks I () rfl ⟨(Or.inl rfl), h⟩ (kn_dec tX9_isFull 27 rfl)
      · have h := h.2 c3
        refine lv_iconst (v := (1)) hx hb (kn_dec tX9_isFull 24 rfl) (by decide) ?_
        refine lv_goto (tgt := 76) hx hb (kn_dec tX9_isFull 25 rfl) (by decide) ?_
        exact kw_zret hx hb hr (kn_nz (Or.inr rfl)) hlocks I () rfl ⟨(Or.inr rfl), h⟩ (kn_dec tX9_isFull 27 rfl)
    · have h := h.2 c2
      rcases Classical.em (y1 = (2 : Int32)) with c4 | c4
      · have h := h.1 c4
        refine lv_tableIn (off := 47) (tgt := 77) hx hb (kn_dec tX9_isFull 17 rfl) (by rw [c4]; decide) (by rw [c4]; decide) (by rw [c4]; rfl) (by decide) ?_
        refine lv_aload_n hx hb (kn_dec tX9_isFull 28 rfl) rfl (lv_at hl 0 rfl) ?_
        refine kw_getl hx hb hts inX9 hown hK I 0 rfl rfl 20 (by decide) rfl (hts _ q4_220) (kn_dec tX9_isFull 29 rfl) rfl ?_
        refine lv_iconst (v := (4)) hx hb (kn_dec tX9_isFull 30 rfl) (by decide) ?_
        refine kw_iald hx hb hK I 0 rfl 20 8 (List.mem_of_getElem? (i := 19) rfl) (by unfold vp_in; decide) (kn_dec tX9_isFull 31 rfl) ?_
        refine lv_bipush (v := (6)) hx hb (kn_dec tX9_isFull 32 rfl) (by decide) ?_
        refine lv_icmp_ne (tgt := 92) hx hb (kn_dec tX9_isFull 33 rfl) (by decide) (fun c5 => ?_) (fun c5 => ?_)
        · have h := h.1 c5
          refine lv_iconst (v := (0)) hx hb (kn_dec tX9_isFull 36 rfl) (by decide) ?_
          exact kw_zret hx hb hr (kn_nz (Or.inl rfl)) hlocks I () rfl ⟨(Or.inl rfl), h⟩ (kn_dec tX9_isFull 37 rfl)
        · have h := h.2 c5
          refine lv_iconst (v := (1)) hx hb (kn_dec tX9_isFull 34 rfl) (by decide) ?_
          refine lv_goto (tgt := 93) hx hb (kn_dec tX9_isFull 35 rfl) (by decide) ?_
          exact kw_zret hx hb hr (kn_nz (Or.inr rfl)) hlocks I () rfl ⟨(Or.inr rfl), h⟩ (kn_dec tX9_isFull 37 rfl)
      · have h := h.2 c4
        rcases Classical.em (y1 = (3 : Int32)) with c6 | c6
        · have h := h.1 c6
          refine lv_tableIn (off := 64) (tgt := 94) hx hb (kn_dec tX9_isFull 17 rfl) (by rw [c6]; decide) (by rw [c6]; decide) (by rw [c6]; rfl) (by decide) ?_
          refine lv_aload_n hx hb (kn_dec tX9_isFull 38 rfl) rfl (lv_at hl 0 rfl) ?_
          refine kw_getl hx hb hts inX9 hown hK I 0 rfl rfl 20 (by decide) rfl (hts _ q4_220) (kn_dec tX9_isFull 39 rfl) rfl ?_
          refine lv_iconst (v := (5)) hx hb (kn_dec tX9_isFull 40 rfl) (by decide) ?_
          refine kw_iald hx hb hK I 0 rfl 20 8 (List.mem_of_getElem? (i := 19) rfl) (by unfold vp_in; decide) (kn_dec tX9_isFull 41 rfl) ?_
          refine lv_iconst (v := (4)) hx hb (kn_dec tX9_isFull 42 rfl) (by decide) ?_
          refine lv_icmp_ne (tgt := 108) hx hb (kn_dec tX9_isFull 43 rfl) (by decide) (fun c7 => ?_) (fun c7 => ?_)
          · have h := h.1 c7
            refine lv_iconst (v := (0)) hx hb (kn_dec tX9_isFull 46 rfl) (by decide) ?_
            exact kw_zret hx hb hr (kn_nz (Or.inl rfl)) hlocks I () rfl ⟨(Or.inl rfl), h⟩ (kn_dec tX9_isFull 47 rfl)
          · have h := h.2 c7
            refine lv_iconst (v := (1)) hx hb (kn_dec tX9_isFull 44 rfl) (by decide) ?_
            refine lv_goto (tgt := 109) hx hb (kn_dec tX9_isFull 45 rfl) (by decide) ?_
            exact kw_zret hx hb hr (kn_nz (Or.inr rfl)) hlocks I () rfl ⟨(Or.inr rfl), h⟩ (kn_dec tX9_isFull 47 rfl)
        · have h := h.2 c6
          rcases Classical.em (y1 = (4 : Int32)) with c8 | c8
          · have h := h.1 c8
            refine lv_tableIn (off := 80) (tgt := 110) hx hb (kn_dec tX9_isFull 17 rfl) (by rw [c8]; decide) (by rw [c8]; decide) (by rw [c8]; rfl) (by decide) ?_
            refine lv_aload_n hx hb (kn_dec tX9_isFull 48 rfl) rfl (lv_at hl 0 rfl) ?_
            refine kw_getl hx hb hts inX9 hown hK I 0 rfl rfl 20 (by decide) rfl (hts _ q4_220) (kn_dec tX9_isFull 49 rfl) rfl ?_
            refine lv_bipush (v := (6)) hx hb (kn_dec tX9_isFull 50 rfl) (by decide) ?_
            refine kw_iald hx hb hK I 0 rfl 20 8 (List.mem_of_getElem? (i := 19) rfl) (by unfold vp_in; decide) (kn_dec tX9_isFull 51 rfl) ?_
            refine lv_bipush (v := (8)) hx hb (kn_dec tX9_isFull 52 rfl) (by decide) ?_
            refine lv_icmp_ne (tgt := 126) hx hb (kn_dec tX9_isFull 53 rfl) (by decide) (fun c9 => ?_) (fun c9 => ?_)
            · have h := h.1 c9
              refine lv_iconst (v := (0)) hx hb (kn_dec tX9_isFull 56 rfl) (by decide) ?_
              exact kw_zret hx hb hr (kn_nz (Or.inl rfl)) hlocks I () rfl ⟨(Or.inl rfl), h⟩ (kn_dec tX9_isFull 57 rfl)
            · have h := h.2 c9
              refine lv_iconst (v := (1)) hx hb (kn_dec tX9_isFull 54 rfl) (by decide) ?_
              refine lv_goto (tgt := 127) hx hb (kn_dec tX9_isFull 55 rfl) (by decide) ?_
              exact kw_zret hx hb hr (kn_nz (Or.inr rfl)) hlocks I () rfl ⟨(Or.inr rfl), h⟩ (kn_dec tX9_isFull 57 rfl)
          · have h := h.2 c8
            refine lv_tableOut (tgt := 128) hx hb (kn_dec tX9_isFull 17 rfl) (by have z0 := kn_nei (k := 1) c2 (by decide); have z1 := kn_nei (k := 2) c4 (by decide); have z2 := kn_nei (k := 3) c6 (by decide); have z3 := kn_nei (k := 4) c8 (by decide); omega) (by decide) ?_
            refine lv_iconst (v := (0)) hx hb (kn_dec tX9_isFull 58 rfl) (by decide) ?_
            exact kw_zret hx hb hr (kn_nz (Or.inl rfl)) hlocks I () rfl ⟨(Or.inl rfl), h⟩ (kn_dec tX9_isFull 59 rfl)
  · have h := h.2 c1
    refine lv_iconst (v := (1)) hx hb (kn_dec tX9_isFull 14 rfl) (by decide) ?_
    exact kw_zret hx hb hr (kn_nz (Or.inr rfl)) hlocks I () rfl ⟨(Or.inr rfl), h⟩ (kn_dec tX9_isFull 15 rfl)
def PX9_isFull_b15 (v_m : OV)  (post : Int32 → Prop) (t0 : Int32) (y1 : Int32) (y2 : Int32) : Prop := ((¬ y2 = ((0 : Int32)) → PX9_isFull_b24 v_m post t0 ((0 : Int32)) y1) ∧ (y2 = ((0 : Int32)) → PX9_isFull_b24 v_m post t0 ((1 : Int32)) y1))
set_option maxRecDepth 100000 in
set_option maxHeartbeats 1000000 in
theorem wX9_isFull_b15 {v_m : OV}  {post : Int32 → Prop} {ad_m : Nat → Nat} (X : kn_X p s m args meth c cX9_isFull 3 (some .boolean) RX9 kn_all D tc Z (kn_A w0 s.heap.size))    : ∀ (H : Heap) (locs : List Loc) (ls : Array Slot) (t0 : Int32) (y1 : Int32) (y2 : Int32), (hz_t0 : t0 = 0 ∨ t0 = 1) → kn_I D tc (kn_A w0 s.heap.size) s.heap [(kModel, ad_m, v_m)] H locs → lv_has ls 3 [(0, .ref (ad_m 0)), (1, .int y1), (2, .int y2)] → PX9_isFull_b15 v_m post t0 y1 y2 → W p l e rmX9_isFull s m args below meth c H locs 0 0 (kn_Qi D tc w0 (fun (u : Unit) => [(kModel, ad_m, v_m)]) (fun (r : Int32) (u : Unit) => (r = 0 ∨ r = 1) ∧ post r) below args s 0 0) (F0 m 15 ls [.int t0]) := by
  obtain ⟨S0, hr, hlocks, hK, hZ, hA⟩ := id X
  obtain ⟨hx, hb, hml, hown, hts⟩ := id S0
  intro H locs ls t0 y1 y2 hz_t0 I hl h
  unfold PX9_isFull_b15 at h
  refine lv_iload_n hx hb (kn_dec tX9_isFull 8 rfl) rfl (lv_at hl 2 rfl) ?_
  refine lv_if_ne (tgt := 23) hx hb (kn_dec tX9_isFull 9 rfl) (by decide) (fun c1 => ?_) (fun c1 => ?_)
  · have h := h.1 c1
    refine lv_iconst (v := (0)) hx hb (kn_dec tX9_isFull 12 rfl) (by decide) ?_
    exact wX9_isFull_b24 X _ _ _ _ _ _ hz_t0 (Or.inl rfl) I (lv_sub hl [0, 1] rfl) h
  · have h := h.2 c1
    refine lv_iconst (v := (1)) hx hb (kn_dec tX9_isFull 10 rfl) (by decide) ?_
    refine lv_goto (tgt := 24) hx hb (kn_dec tX9_isFull 11 rfl) (by decide) ?_
    exact wX9_isFull_b24 X _ _ _ _ _ _ hz_t0 (Or.inr rfl) I (lv_sub hl [0, 1] rfl) h
def PX9_isFull  (v_m : OV) (a1 : Int32) (a2 : Int32) (post : Int32 → Prop) : Prop := ((a2 = ((40 : Int32)) → post ((1 : Int32))) ∧ (¬ a2 = ((40 : Int32)) → ((¬ a1 = ((0 : Int32)) → PX9_isFull_b15 v_m post ((0 : Int32)) a1 a2) ∧ (a1 = ((0 : Int32)) → PX9_isFull_b15 v_m post ((1 : Int32)) a1 a2))))
set_option maxRecDepth 100000 in
set_option maxHeartbeats 1000000 in
theorem ctX9_isFull {l : Launch} {D : va_G} {tc : Nat → ClassId} {Z : (Nat → Nat) × (Nat → Nat)}  {ad_m : Nat → Nat} {v_m : OV} {a1 : Int32} {a2 : Int32}    {post : Int32 → Prop} (h : PX9_isFull  v_m a1 a2 post) : CTi l D tc Z yX9_isFull (Cond.code yX9_isFull cX9_isFull 3 (some .boolean) :: kn_all) rmX9_isFull 0 0 [.ref (ad_m 0), .int a1, .int a2] [(kModel, ad_m, v_m)] (fun (u : Unit) => [(kModel, ad_m, v_m)]) (fun (r : Int32) (u : Unit) => (r = 0 ∨ r = 1) ∧ post r) := by
  refine kn_ofi (cc := cX9_isFull) (nL := 3) (ret := (some .boolean)) (lv := [(0, .ref (ad_m 0)), (1, .int a1), (2, .int a2)]) (by decide) (Nat.le_of_ble_eq_true rfl) rfl (fun p e s m below meth c ls X I hl _ => ?_)
  obtain ⟨S0, hr, hlocks, hK, hZ, hA⟩ := id X
  obtain ⟨hx, hb, hml, hown, hts⟩ := id S0
  unfold PX9_isFull at h
  refine lv_iload_n hx hb (kn_dec tX9_isFull 0 rfl) rfl (lv_at hl 2 rfl) ?_
  refine lv_bipush (v := (40)) hx hb (kn_dec tX9_isFull 1 rfl) (by decide) ?_
  refine lv_icmp_eq (tgt := 27) hx hb (kn_dec tX9_isFull 2 rfl) (by decide) (fun c1 => ?_) (fun c1 => ?_)
  · have h := h.1 c1
    refine lv_iconst (v := (1)) hx hb (kn_dec tX9_isFull 14 rfl) (by decide) ?_
    exact kw_zret hx hb hr (kn_nz (Or.inr rfl)) hlocks I () rfl ⟨(Or.inr rfl), h⟩ (kn_dec tX9_isFull 15 rfl)
  · have h := h.2 c1
    refine lv_iload_n hx hb (kn_dec tX9_isFull 3 rfl) rfl (lv_at hl 1 rfl) ?_
    refine lv_if_ne (tgt := 14) hx hb (kn_dec tX9_isFull 4 rfl) (by decide) (fun c2 => ?_) (fun c2 => ?_)
    · have h := h.1 c2
      refine lv_iconst (v := (0)) hx hb (kn_dec tX9_isFull 7 rfl) (by decide) ?_
      exact wX9_isFull_b15 X _ _ _ _ _ _ (Or.inl rfl) I (lv_sub hl [0, 1, 2] rfl) h
    · have h := h.2 c2
      refine lv_iconst (v := (1)) hx hb (kn_dec tX9_isFull 5 rfl) (by decide) ?_
      refine lv_goto (tgt := 15) hx hb (kn_dec tX9_isFull 6 rfl) (by decide) ?_
      exact wX9_isFull_b15 X _ _ _ _ _ _ (Or.inr rfl) I (lv_sub hl [0, 1, 2] rfl) h

/-! X9_begins -/
abbrev rmX9_begins : Room := { frames := 1, cells := 0, slots := 0, locals := 22 }
def PX9_begins_L78   (post : OV → Prop) : Nat → Int32 → OV → Prop
  | 0, _, _ => False
  | n + 1, y1, v_m => ((((4 : Int32)) ≤ y1 → post v_m) ∧ (¬ ((4 : Int32)) ≤ y1 → (vp_in y1 4 ∧ (∀ v_m3 : OV, v_m3 = sa v_m 11 (upd (v_m.2.1 11) y1.toNatClampNeg ((-1 : Int32))) → (vp_in y1 4 ∧ (∀ v_m5 : OV, v_m5 = sa v_m3 12 (upd (v_m3.2.1 12) y1.toNatClampNeg ((0 : Int32))) → (vp_in y1 4 ∧ (∀ v_m7 : OV, v_m7 = sa v_m5 13 (upd (v_m5.2.1 13) y1.toNatClampNeg ((0 : Int32))) → (∀ x8 : Int32, x8 = y1 + (1 : Int32) → PX9_begins_L78 post n x8 v_m7)))))))))
set_option maxRecDepth 100000 in
set_option maxHeartbeats 1000000 in
theorem wX9_begins_L78   {post : OV → Prop} {ad_m : Nat → Nat} (X : kn_X p s m args meth c cX9_begins 2 none RX9 kn_all D tc Z (kn_A w0 s.heap.size))    : ∀ n : Nat, ∀ (H : Heap) (locs : List Loc) (ls : Array Slot) (y1 : Int32) (v_m : OV), kn_I D tc (kn_A w0 s.heap.size) s.heap [(kModel, ad_m, v_m)] H locs → lv_has ls 2 [(0, .ref (ad_m 0)), (1, .int y1)] → PX9_begins_L78 post n y1 v_m → W p l e rmX9_begins s m args below meth c H locs 0 0 (kn_Qv D tc w0 (fun (u : OV) => [(kModel, ad_m, u)]) (fun (u : OV) => post u) below args s 0 0) (F0 m 78 ls []) := by
  obtain ⟨S0, hr, hlocks, hK, hZ, hA⟩ := id X
  obtain ⟨hx, hb, hml, hown, hts⟩ := id S0
  intro n
  induction n with
  | zero =>
    intro H locs ls y1 v_m I hl h
    unfold PX9_begins_L78 at h
    exact h.elim
  | succ n ih =>
    intro H locs ls y1 v_m I hl h
    unfold PX9_begins_L78 at h
    refine lv_iload_n hx hb (kn_dec tX9_begins 45 rfl) rfl (lv_at hl 1 rfl) ?_
    refine lv_iconst (v := (4)) hx hb (kn_dec tX9_begins 46 rfl) (by decide) ?_
    refine lv_icmp_ge (tgt := 110) hx hb (kn_dec tX9_begins 47 rfl) (by decide) (fun c1 => ?_) (fun c1 => ?_)
    · have h := h.1 c1
      exact kw_vret hx hb hr hlocks I _ rfl h (kn_dec tX9_begins 65 rfl)
    · have h := h.2 c1
      refine lv_aload_n hx hb (kn_dec tX9_begins 48 rfl) rfl (lv_at hl 0 rfl) ?_
      refine kw_getl hx hb hts inX9 hown hK I 0 rfl rfl 11 (by decide) rfl (hts _ q4_211) (kn_dec tX9_begins 49 rfl) rfl ?_
      refine lv_iload_n hx hb (kn_dec tX9_begins 50 rfl) rfl (lv_at hl 1 rfl) ?_
      refine lv_iconst (v := (-1)) hx hb (kn_dec tX9_begins 51 rfl) (by decide) ?_
      obtain ⟨hs2, h⟩ := h
      refine kw_iast hx hb hK I 0 rfl 11 4 (List.mem_of_getElem? (i := 10) rfl) ukModel_11 hs2 (kn_dec tX9_begins 52 rfl) (fun v_m3 ev_m3 H locs I => ?_)
      have h := h v_m3 ev_m3
      have I : kn_I D tc (kn_A w0 s.heap.size) s.heap [(kModel, ad_m, _)] _ _ := I
      refine lv_aload_n hx hb (kn_dec tX9_begins 53 rfl) rfl (lv_at hl 0 rfl) ?_
      refine kw_getl hx hb hts inX9 hown hK I 0 rfl rfl 12 (by decide) rfl (hts _ q4_212) (kn_dec tX9_begins 54 rfl) rfl ?_
      refine lv_iload_n hx hb (kn_dec tX9_begins 55 rfl) rfl (lv_at hl 1 rfl) ?_
      refine lv_iconst (v := (0)) hx hb (kn_dec tX9_begins 56 rfl) (by decide) ?_
      obtain ⟨hs4, h⟩ := h
      refine kw_iast hx hb hK I 0 rfl 12 4 (List.mem_of_getElem? (i := 11) rfl) ukModel_12 hs4 (kn_dec tX9_begins 57 rfl) (fun v_m5 ev_m5 H locs I => ?_)
      have h := h v_m5 ev_m5
      have I : kn_I D tc (kn_A w0 s.heap.size) s.heap [(kModel, ad_m, _)] _ _ := I
      refine lv_aload_n hx hb (kn_dec tX9_begins 58 rfl) rfl (lv_at hl 0 rfl) ?_
      refine kw_getl hx hb hts inX9 hown hK I 0 rfl rfl 13 (by decide) rfl (hts _ q4_213) (kn_dec tX9_begins 59 rfl) rfl ?_
      refine lv_iload_n hx hb (kn_dec tX9_begins 60 rfl) rfl (lv_at hl 1 rfl) ?_
      refine lv_iconst (v := (0)) hx hb (kn_dec tX9_begins 61 rfl) (by decide) ?_
      obtain ⟨hs6, h⟩ := h
      refine kw_iast hx hb hK I 0 rfl 13 4 (List.mem_of_getElem? (i := 12) rfl) ukModel_13 hs6 (kn_dec tX9_begins 62 rfl) (fun v_m7 ev_m7 H locs I => ?_)
      have h := h v_m7 ev_m7
      have I : kn_I D tc (kn_A w0 s.heap.size) s.heap [(kModel, ad_m, _)] _ _ := I
      refine kw_iinc (lvf := fun y => [(1, .int y), (0, .ref (ad_m 0))]) (nv := (1)) hx hb (kn_dec tX9_begins 63 rfl) hl (k := 1) rfl (by decide) (by decide) (fun _ => rfl) (fun x8 ex8 ls hl => ?_)
      have h := h x8 ex8
      refine lv_goto (tgt := 78) hx hb (kn_dec tX9_begins 64 rfl) (by decide) ?_
      exact ih _ _ _ _ _  I (lv_sub hl [1, 0] rfl) h
def PX9_begins_L57   (post : OV → Prop) : Nat → Int32 → OV → Prop
  | 0, _, _ => False
  | n + 1, y1, v_m => ((((10 : Int32)) ≤ y1 → (∃ n2 : Nat, PX9_begins_L78 post n2 ((0 : Int32)) v_m)) ∧ (¬ ((10 : Int32)) ≤ y1 → (vp_in y1 10 ∧ (∀ v_m4 : OV, v_m4 = sa v_m 5 (upd (v_m.2.1 5) y1.toNatClampNeg ((0 : Int32))) → (∀ x5 : Int32, x5 = y1 + (1 : Int32) → PX9_begins_L57 post n x5 v_m4)))))
set_option maxRecDepth 100000 in
set_option maxHeartbeats 1000000 in
theorem wX9_begins_L57   {post : OV → Prop} {ad_m : Nat → Nat} (X : kn_X p s m args meth c cX9_begins 2 none RX9 kn_all D tc Z (kn_A w0 s.heap.size))    : ∀ n : Nat, ∀ (H : Heap) (locs : List Loc) (ls : Array Slot) (y1 : Int32) (v_m : OV), kn_I D tc (kn_A w0 s.heap.size) s.heap [(kModel, ad_m, v_m)] H locs → lv_has ls 2 [(0, .ref (ad_m 0)), (1, .int y1)] → PX9_begins_L57 post n y1 v_m → W p l e rmX9_begins s m args below meth c H locs 0 0 (kn_Qv D tc w0 (fun (u : OV) => [(kModel, ad_m, u)]) (fun (u : OV) => post u) below args s 0 0) (F0 m 57 ls []) := by
  obtain ⟨S0, hr, hlocks, hK, hZ, hA⟩ := id X
  obtain ⟨hx, hb, hml, hown, hts⟩ := id S0
  intro n
  induction n with
  | zero =>
    intro H locs ls y1 v_m I hl h
    unfold PX9_begins_L57 at h
    exact h.elim
  | succ n ih =>
    intro H locs ls y1 v_m I hl h
    unfold PX9_begins_L57 at h
    refine lv_iload_n hx hb (kn_dec tX9_begins 33 rfl) rfl (lv_at hl 1 rfl) ?_
    refine lv_bipush (v := (10)) hx hb (kn_dec tX9_begins 34 rfl) (by decide) ?_
    refine lv_icmp_ge (tgt := 76) hx hb (kn_dec tX9_begins 35 rfl) (by decide) (fun c1 => ?_) (fun c1 => ?_)
    · have h := h.1 c1
      refine lv_iconst (v := (0)) hx hb (kn_dec tX9_begins 43 rfl) (by decide) ?_
      refine lv_istore_n (lv' := [(1, .int _), (0, .ref (ad_m 0))]) hx hb (kn_dec tX9_begins 44 rfl) rfl hl (by decide) rfl (fun ls hl => ?_)
      obtain ⟨n2, h⟩ := h
      exact wX9_begins_L78 X n2 _ _ _ _ _  I (lv_sub hl [1, 0] rfl) h
    · have h := h.2 c1
      refine lv_aload_n hx hb (kn_dec tX9_begins 36 rfl) rfl (lv_at hl 0 rfl) ?_
      refine kw_getl hx hb hts inX9 hown hK I 0 rfl rfl 5 (by decide) rfl (hts _ q4_205) (kn_dec tX9_begins 37 rfl) rfl ?_
      refine lv_iload_n hx hb (kn_dec tX9_begins 38 rfl) rfl (lv_at hl 1 rfl) ?_
      refine lv_iconst (v := (0)) hx hb (kn_dec tX9_begins 39 rfl) (by decide) ?_
      obtain ⟨hs3, h⟩ := h
      refine kw_iast hx hb hK I 0 rfl 5 10 (List.mem_of_getElem? (i := 4) rfl) ukModel_5 hs3 (kn_dec tX9_begins 40 rfl) (fun v_m4 ev_m4 H locs I => ?_)
      have h := h v_m4 ev_m4
      have I : kn_I D tc (kn_A w0 s.heap.size) s.heap [(kModel, ad_m, _)] _ _ := I
      refine kw_iinc (lvf := fun y => [(1, .int y), (0, .ref (ad_m 0))]) (nv := (1)) hx hb (kn_dec tX9_begins 41 rfl) hl (k := 1) rfl (by decide) (by decide) (fun _ => rfl) (fun x5 ex5 ls hl => ?_)
      have h := h x5 ex5
      refine lv_goto (tgt := 57) hx hb (kn_dec tX9_begins 42 rfl) (by decide) ?_
      exact ih _ _ _ _ _  I (lv_sub hl [1, 0] rfl) h
def PX9_begins  (v_m : OV) (post : OV → Prop) : Prop := (PX9_copies v_m 17 6 6 6 (fun v_m1 => (PX9_copies v_m1 18 4 9 4 (fun v_m3 => (∀ x5 : Int32, x5 = (v_m3.2.1 19 ((0 : Int32)).toNatClampNeg) → (∀ v_m6 : OV, v_m6 = sa v_m3 1 (upd (v_m3.2.1 1) ((0 : Int32)).toNatClampNeg x5) → (∀ x7 : Int32, x7 = (v_m6.2.1 19 ((1 : Int32)).toNatClampNeg) → (∀ v_m8 : OV, v_m8 = sa v_m6 1 (upd (v_m6.2.1 1) ((7 : Int32)).toNatClampNeg x7) → (∀ v_m9 : OV, v_m9 = sa v_m8 1 (upd (v_m8.2.1 1) ((8 : Int32)).toNatClampNeg ((0 : Int32))) → (∃ n10 : Nat, PX9_begins_L57 post n10 ((0 : Int32)) v_m9))))))))))
set_option maxRecDepth 100000 in
set_option maxHeartbeats 1000000 in
theorem ctX9_begins {l : Launch} {D : va_G} {tc : Nat → ClassId} {Z : (Nat → Nat) × (Nat → Nat)}  {ad_m : Nat → Nat} {v_m : OV}    {post : OV → Prop} (h : PX9_begins  v_m post) : CTv l D tc Z yX9_begins (Cond.code yX9_begins cX9_begins 2 none :: kn_all) rmX9_begins 0 0 [.ref (ad_m 0)] [(kModel, ad_m, v_m)] (fun (u : OV) => [(kModel, ad_m, u)]) (fun (u : OV) => post u) := by
  refine kn_ofv (cc := cX9_begins) (nL := 2) (ret := none) (lv := [(0, .ref (ad_m 0))]) (by decide) (Nat.le_of_ble_eq_true rfl) rfl (fun p e s m below meth c ls X I hl _ => ?_)
  obtain ⟨S0, hr, hlocks, hK, hZ, hA⟩ := id X
  obtain ⟨hx, hb, hml, hown, hts⟩ := id S0
  unfold PX9_begins at h
  refine lv_aload_n hx hb (kn_dec tX9_begins 0 rfl) rfl (lv_at hl 0 rfl) ?_
  refine kw_getl hx hb hts inX9 hown hK I 0 rfl rfl 17 (by decide) rfl (hts _ q4_217) (kn_dec tX9_begins 1 rfl) rfl ?_
  refine lv_aload_n hx hb (kn_dec tX9_begins 2 rfl) rfl (lv_at hl 0 rfl) ?_
  refine kw_getl hx hb hts inX9 hown hK I 0 rfl rfl 6 (by decide) rfl (hts _ q4_206) (kn_dec tX9_begins 3 rfl) rfl ?_
  refine kw_callv (wc := [(kModel, ad_m, _)]) (wr := []) I hA [0] [] rfl rfl (by decide) (by decide) (kn_runS (As := [.ref (ad_m (17 + 1)), .ref (ad_m (6 + 1))]) S0 hK hZ hA I ((ctX9_copies (List.mem_of_getElem? (i := 16) rfl) ukModel_17 (List.mem_of_getElem? (i := 5) rfl) ukModel_6 h).met _) (kn_cwS 2 hts q6_12 q6_13 q1_10 q6_14 rfl rfl (by decide +kernel) ⟨(Nat.le_of_ble_eq_true rfl), (Nat.le_of_ble_eq_true rfl)⟩) [0] rfl (by decide) rfl hl.1 rfl (Nat.le_of_ble_eq_true rfl) (kn_dec tX9_begins 4 rfl) ⟨(Nat.le_of_ble_eq_true rfl), (Nat.le_of_ble_eq_true rfl)⟩) (fun u2 H locs h I => ?_)
  have I : kn_I D tc (kn_A _ s.heap.size) s.heap [(kModel, ad_m, _)] _ _ := I
  refine lv_aload_n hx hb (kn_dec tX9_begins 5 rfl) rfl (lv_at hl 0 rfl) ?_
  refine kw_getl hx hb hts inX9 hown hK I 0 rfl rfl 18 (by decide) rfl (hts _ q4_218) (kn_dec tX9_begins 6 rfl) rfl ?_
  refine lv_aload_n hx hb (kn_dec tX9_begins 7 rfl) rfl (lv_at hl 0 rfl) ?_
  refine kw_getl hx hb hts inX9 hown hK I 0 rfl rfl 9 (by decide) rfl (hts _ q4_209) (kn_dec tX9_begins 8 rfl) rfl ?_
  refine kw_callv (wc := [(kModel, ad_m, _)]) (wr := []) I hA [0] [] rfl rfl (by decide) (by decide) (kn_runS (As := [.ref (ad_m (18 + 1)), .ref (ad_m (9 + 1))]) S0 hK hZ hA I ((ctX9_copies (List.mem_of_getElem? (i := 17) rfl) ukModel_18 (List.mem_of_getElem? (i := 8) rfl) ukModel_9 h).met _) (kn_cwS 2 hts q6_12 q6_13 q1_10 q6_14 rfl rfl (by decide +kernel) ⟨(Nat.le_of_ble_eq_true rfl), (Nat.le_of_ble_eq_true rfl)⟩) [0] rfl (by decide) rfl hl.1 rfl (Nat.le_of_ble_eq_true rfl) (kn_dec tX9_begins 9 rfl) ⟨(Nat.le_of_ble_eq_true rfl), (Nat.le_of_ble_eq_true rfl)⟩) (fun u4 H locs h I => ?_)
  have I : kn_I D tc (kn_A _ s.heap.size) s.heap [(kModel, ad_m, _)] _ _ := I
  refine lv_aload_n hx hb (kn_dec tX9_begins 10 rfl) rfl (lv_at hl 0 rfl) ?_
  refine kw_getl hx hb hts inX9 hown hK I 0 rfl rfl 1 (by decide) rfl (hts _ q4_201) (kn_dec tX9_begins 11 rfl) rfl ?_
  refine lv_iconst (v := (0)) hx hb (kn_dec tX9_begins 12 rfl) (by decide) ?_
  refine lv_aload_n hx hb (kn_dec tX9_begins 13 rfl) rfl (lv_at hl 0 rfl) ?_
  refine kw_getl hx hb hts inX9 hown hK I 0 rfl rfl 19 (by decide) rfl (hts _ q4_219) (kn_dec tX9_begins 14 rfl) rfl ?_
  refine lv_iconst (v := (0)) hx hb (kn_dec tX9_begins 15 rfl) (by decide) ?_
  refine kw_iald hx hb hK I 0 rfl 19 2 (List.mem_of_getElem? (i := 18) rfl) (by unfold vp_in; decide) (kn_dec tX9_begins 16 rfl) ?_
  refine lv_topi (fun x5 ex5 => ?_)
  have h := h x5 ex5
  refine kw_iast hx hb hK I 0 rfl 1 12 (List.mem_of_getElem? (i := 0) rfl) ukModel_1 (by unfold vp_in; decide) (kn_dec tX9_begins 17 rfl) (fun v_m6 ev_m6 H locs I => ?_)
  have h := h v_m6 ev_m6
  have I : kn_I D tc (kn_A _ s.heap.size) s.heap [(kModel, ad_m, _)] _ _ := I
  refine lv_aload_n hx hb (kn_dec tX9_begins 18 rfl) rfl (lv_at hl 0 rfl) ?_
  refine kw_getl hx hb hts inX9 hown hK I 0 rfl rfl 1 (by decide) rfl (hts _ q4_201) (kn_dec tX9_begins 19 rfl) rfl ?_
  refine lv_bipush (v := (7)) hx hb (kn_dec tX9_begins 20 rfl) (by decide) ?_
  refine lv_aload_n hx hb (kn_dec tX9_begins 21 rfl) rfl (lv_at hl 0 rfl) ?_
  refine kw_getl hx hb hts inX9 hown hK I 0 rfl rfl 19 (by decide) rfl (hts _ q4_219) (kn_dec tX9_begins 22 rfl) rfl ?_
  refine lv_iconst (v := (1)) hx hb (kn_dec tX9_begins 23 rfl) (by decide) ?_
  refine kw_iald hx hb hK I 0 rfl 19 2 (List.mem_of_getElem? (i := 18) rfl) (by unfold vp_in; decide) (kn_dec tX9_begins 24 rfl) ?_
  refine lv_topi (fun x7 ex7 => ?_)
  have h := h x7 ex7
  refine kw_iast hx hb hK I 0 rfl 1 12 (List.mem_of_getElem? (i := 0) rfl) ukModel_1 (by unfold vp_in; decide) (kn_dec tX9_begins 25 rfl) (fun v_m8 ev_m8 H locs I => ?_)
  have h := h v_m8 ev_m8
  have I : kn_I D tc (kn_A _ s.heap.size) s.heap [(kModel, ad_m, _)] _ _ := I
  refine lv_aload_n hx hb (kn_dec tX9_begins 26 rfl) rfl (lv_at hl 0 rfl) ?_
  refine kw_getl hx hb hts inX9 hown hK I 0 rfl rfl 1 (by decide) rfl (hts _ q4_201) (kn_dec tX9_begins 27 rfl) rfl ?_
  refine lv_bipush (v := (8)) hx hb (kn_dec tX9_begins 28 rfl) (by decide) ?_
  refine lv_iconst (v := (0)) hx hb (kn_dec tX9_begins 29 rfl) (by decide) ?_
  refine kw_iast hx hb hK I 0 rfl 1 12 (List.mem_of_getElem? (i := 0) rfl) ukModel_1 (by unfold vp_in; decide) (kn_dec tX9_begins 30 rfl) (fun v_m9 ev_m9 H locs I => ?_)
  have h := h v_m9 ev_m9
  have I : kn_I D tc (kn_A _ s.heap.size) s.heap [(kModel, ad_m, _)] _ _ := I
  refine lv_iconst (v := (0)) hx hb (kn_dec tX9_begins 31 rfl) (by decide) ?_
  refine lv_istore_n (lv' := [(1, .int _), (0, .ref (ad_m 0))]) hx hb (kn_dec tX9_begins 32 rfl) rfl hl (by decide) rfl (fun ls hl => ?_)
  obtain ⟨n10, h⟩ := h
  exact wX9_begins_L57 X n10 _ _ _ _ _  I (lv_sub hl [1, 0] rfl) h

/-! X9_force -/
abbrev rmX9_force : Room := { frames := 1, cells := 0, slots := 0, locals := 25 }
def PX9_force  (v_m : OV) (a1 : Int32) (post : Int32 → OV → Prop) : Prop := (PX9_in a1.toInt64 ((-1 : Int64)) (((v_m.1 34) - ((1 : Int32))).toInt64) (fun r1 => ((¬ r1 = ((0 : Int32)) → (∀ x4 : Int32, x4 = (v_m.2.1 1 ((11 : Int32)).toNatClampNeg) → (∀ v_m5 : OV, v_m5 = sa v_m 1 (upd (v_m.2.1 1) ((11 : Int32)).toNatClampNeg a1) → post x4 v_m5))) ∧ (r1 = ((0 : Int32)) → post ((-2 : Int32)) v_m))))
set_option maxRecDepth 100000 in
set_option maxHeartbeats 1000000 in
theorem ctX9_force {l : Launch} {D : va_G} {tc : Nat → ClassId} {Z : (Nat → Nat) × (Nat → Nat)}  {ad_m : Nat → Nat} {v_m : OV} {a1 : Int32}    {post : Int32 → OV → Prop} (h : PX9_force  v_m a1 post) : CTi l D tc Z yX9_force (Cond.code yX9_force cX9_force 3 (some .int) :: kn_all) rmX9_force 0 0 [.ref (ad_m 0), .int a1] [(kModel, ad_m, v_m)] (fun (u : OV) => [(kModel, ad_m, u)]) (fun (r : Int32) (u : OV) => post r u) := by
  refine kn_ofi (cc := cX9_force) (nL := 3) (ret := (some .int)) (lv := [(0, .ref (ad_m 0)), (1, .int a1)]) (by decide) (Nat.le_of_ble_eq_true rfl) rfl (fun p e s m below meth c ls X I hl _ => ?_)
  obtain ⟨S0, hr, hlocks, hK, hZ, hA⟩ := id X
  obtain ⟨hx, hb, hml, hown, hts⟩ := id S0
  unfold PX9_force at h
  refine lv_iload_n hx hb (kn_dec tX9_force 0 rfl) rfl (lv_at hl 1 rfl) ?_
  refine lv_i2l hx hb (kn_dec tX9_force 1 rfl) rfl ?_
  refine lv_ldc2 (v := (-1)) hx hb hown (hts _ q6_99) (kn_dec tX9_force 2 rfl) ?_
  refine lv_aload_n hx hb (kn_dec tX9_force 3 rfl) rfl (lv_at hl 0 rfl) ?_
  refine kw_geti hx hb hts inX9 hown hK I 0 rfl rfl 34 (by decide) rfl (hts _ q4_234) (kn_dec tX9_force 4 rfl) ?_
  refine lv_iconst (v := (1)) hx hb (kn_dec tX9_force 5 rfl) (by decide) ?_
  refine lv_isub hx hb (kn_dec tX9_force 6 rfl) ?_
  refine lv_i2l hx hb (kn_dec tX9_force 7 rfl) rfl ?_
  refine kw_calli (wc := []) (wr := [(kModel, ad_m, _)]) I hA [] [0] rfl rfl (by decide) (by decide) (kn_runS (As := [.long _, .long _, .long _]) S0 hK hZ hA I ((ctX9_in h).met _) (kn_cwS 3 hts q6_1 q6_2 q1_10 q6_3 rfl rfl (by decide +kernel) ⟨(Nat.le_of_ble_eq_true rfl), (Nat.le_of_ble_eq_true rfl)⟩) [] rfl (by decide) rfl hl.1 rfl (Nat.le_of_ble_eq_true rfl) (kn_dec tX9_force 8 rfl) ⟨(Nat.le_of_ble_eq_true rfl), (Nat.le_of_ble_eq_true rfl)⟩) (fun r1 u2 H locs h I => ?_)
  obtain ⟨hz_r1, h⟩ := h
  have I : kn_I D tc (kn_A _ s.heap.size) s.heap [(kModel, ad_m, _)] _ _ := I
  refine lv_if_ne (tgt := 21) hx hb (kn_dec tX9_force 9 rfl) (by decide) (fun c3 => ?_) (fun c3 => ?_)
  · have h := h.1 c3
    refine lv_aload_n hx hb (kn_dec tX9_force 12 rfl) rfl (lv_at hl 0 rfl) ?_
    refine kw_getl hx hb hts inX9 hown hK I 0 rfl rfl 1 (by decide) rfl (hts _ q4_201) (kn_dec tX9_force 13 rfl) rfl ?_
    refine lv_bipush (v := (11)) hx hb (kn_dec tX9_force 14 rfl) (by decide) ?_
    refine kw_iald hx hb hK I 0 rfl 1 12 (List.mem_of_getElem? (i := 0) rfl) (by unfold vp_in; decide) (kn_dec tX9_force 15 rfl) ?_
    refine lv_topi (fun x4 ex4 => ?_)
    have h := h x4 ex4
    refine lv_istore_n (lv' := [(2, .int _), (0, .ref (ad_m 0)), (1, .int _)]) hx hb (kn_dec tX9_force 16 rfl) rfl hl (by decide) rfl (fun ls hl => ?_)
    refine lv_aload_n hx hb (kn_dec tX9_force 17 rfl) rfl (lv_at hl 1 rfl) ?_
    refine kw_getl hx hb hts inX9 hown hK I 0 rfl rfl 1 (by decide) rfl (hts _ q4_201) (kn_dec tX9_force 18 rfl) rfl ?_
    refine lv_bipush (v := (11)) hx hb (kn_dec tX9_force 19 rfl) (by decide) ?_
    refine lv_iload_n hx hb (kn_dec tX9_force 20 rfl) rfl (lv_at hl 2 rfl) ?_
    refine kw_iast hx hb hK I 0 rfl 1 12 (List.mem_of_getElem? (i := 0) rfl) ukModel_1 (by unfold vp_in; decide) (kn_dec tX9_force 21 rfl) (fun v_m5 ev_m5 H locs I => ?_)
    have h := h v_m5 ev_m5
    have I : kn_I D tc (kn_A _ s.heap.size) s.heap [(kModel, ad_m, _)] _ _ := I
    refine lv_iload_n hx hb (kn_dec tX9_force 22 rfl) rfl (lv_at hl 0 rfl) ?_
    exact kw_iret hx hb hr hlocks I _ rfl h (kn_dec tX9_force 23 rfl)
  · have h := h.2 c3
    refine lv_bipush (v := (-2)) hx hb (kn_dec tX9_force 10 rfl) (by decide) ?_
    exact kw_iret hx hb hr hlocks I _ rfl h (kn_dec tX9_force 11 rfl)

end
