section
variable {p : Program} {l : Launch} {e : Env} {s : State} {m : MethodId} {args : Array Value} {below : List Frame} {meth : Method} {c : Code} {D : va_G} {tc : Nat → ClassId} {Z : (Nat → Nat) × (Nat → Nat)} {w0 : List CH}

/-! X9_keepsAct -/
abbrev rmX9_keepsAct : Room := { frames := 3, cells := 0, slots := 0, locals := 66 }
def PX9_keepsAct_b50   (post : OV → Prop) (v_m : OV) : Prop := (PX9_movesAll v_m (v_m.1 57) ((0 : Int32)) (fun v_m1 => (∀ x3 : Int32, x3 = ((v_m1.1 57) + ((1 : Int32))) → (∀ v_m4 : OV, v_m4 = si v_m1 57 x3 → post v_m4))))
set_option maxRecDepth 100000 in
set_option maxHeartbeats 1000000 in
theorem wX9_keepsAct_b50   {post : OV → Prop} {ad_m : Nat → Nat} (X : kn_X p s m args meth c cX9_keepsAct 2 none RX9 kn_all D tc Z (kn_A w0 s.heap.size))    : ∀ (H : Heap) (locs : List Loc) (ls : Array Slot) (v_m : OV), kn_I D tc (kn_A w0 s.heap.size) s.heap [(kModel, ad_m, v_m)] H locs → lv_has ls 2 [(0, .ref (ad_m 0))] → PX9_keepsAct_b50 post v_m → W p l e rmX9_keepsAct s m args below meth c H locs 0 0 (kn_Qv D tc w0 (fun (u : OV) => [(kModel, ad_m, u)]) (fun (u : OV) => post u) below args s 0 0) (F0 m 50 ls []) := by
  obtain ⟨S0, hr, hlocks, hK, hZ, hA⟩ := id X
  obtain ⟨hx, hb, hml, hown, hts⟩ := id S0
  intro H locs ls v_m I hl h
  unfold PX9_keepsAct_b50 at h
  refine lv_aload_n hx hb (kn_dec tX9_keepsAct 27 rfl) rfl (lv_at hl 0 rfl) ?_
  refine lv_aload_n hx hb (kn_dec tX9_keepsAct 28 rfl) rfl (lv_at hl 0 rfl) ?_
  refine kw_geti hx hb hts inX9 hown hK I 0 rfl rfl 57 (by decide) rfl (hts _ q5_17) (kn_dec tX9_keepsAct 29 rfl) ?_
  refine lv_iconst (v := (0)) hx hb (kn_dec tX9_keepsAct 30 rfl) (by decide) ?_
  refine kw_callv (wc := [(kModel, ad_m, _)]) (wr := []) I hA [0] [] rfl rfl (by decide) (by decide) (kn_runV (As := [.int _, .int _]) S0 hK hZ hA I ((ctX9_movesAll (Or.inl rfl) h).met _) (kn_cwV 2 hts q6_131 q6_133 q0_61 q1_10 q6_134 rfl rfl (by decide +kernel) ⟨(Nat.le_of_ble_eq_true rfl), (Nat.le_of_ble_eq_true rfl)⟩) [0] rfl (by decide) 0 rfl rfl rfl rfl hl.1 rfl (Nat.le_of_ble_eq_true rfl) (kn_dec tX9_keepsAct 31 rfl) ⟨(Nat.le_of_ble_eq_true rfl), (Nat.le_of_ble_eq_true rfl)⟩) (fun u2 H locs h I => ?_)
  have I : kn_I D tc (kn_A w0 s.heap.size) s.heap [(kModel, ad_m, _)] _ _ := I
  refine lv_aload_n hx hb (kn_dec tX9_keepsAct 32 rfl) rfl (lv_at hl 0 rfl) ?_
  refine lv_dup hx hb (kn_dec tX9_keepsAct 33 rfl) rfl ?_
  refine kw_geti hx hb hts inX9 hown hK I 0 rfl rfl 57 (by decide) rfl (hts _ q5_17) (kn_dec tX9_keepsAct 34 rfl) ?_
  refine lv_iconst (v := (1)) hx hb (kn_dec tX9_keepsAct 35 rfl) (by decide) ?_
  refine lv_iadd hx hb (kn_dec tX9_keepsAct 36 rfl) ?_
  refine lv_topi (fun x3 ex3 => ?_)
  have h := h x3 ex3
  refine kw_puti hx hb hts inX9 tyX9 tyX9_ok nmX9 hown hK I 0 rfl rfl 57 (by decide) rfl (hts _ q5_17) rfl rfl rfl (kn_dec tX9_keepsAct 37 rfl) (fun v_m4 ev_m4 H locs I => ?_)
  have h := h v_m4 ev_m4
  have I : kn_I D tc (kn_A w0 s.heap.size) s.heap [(kModel, ad_m, _)] _ _ := I
  exact kw_vret hx hb hr hlocks I _ rfl h (kn_dec tX9_keepsAct 38 rfl)
def PX9_keepsAct_L12   (post : OV → Prop) : Nat → Int32 → OV → Prop
  | 0, _, _ => False
  | n + 1, y1, v_m => ((((700 : Int32)) ≤ y1 → (∀ x2 : Int32, x2 = ((v_m.1 57) - ((1 : Int32))) → (∀ v_m3 : OV, v_m3 = si v_m 57 x2 → PX9_keepsAct_b50 post v_m3))) ∧ (¬ ((700 : Int32)) ≤ y1 → (vp_in y1 700 ∧ (∀ x5 : Int32, x5 = (v_m.2.1 55 y1.toNatClampNeg) → (vp_in (y1 - ((35 : Int32))) 700 ∧ (∀ v_m7 : OV, v_m7 = sa v_m 55 (upd (v_m.2.1 55) (y1 - ((35 : Int32))).toNatClampNeg x5) → (∀ x8 : Int32, x8 = y1 + (1 : Int32) → PX9_keepsAct_L12 post n x8 v_m7)))))))
set_option maxRecDepth 100000 in
set_option maxHeartbeats 1000000 in
theorem wX9_keepsAct_L12   {post : OV → Prop} {ad_m : Nat → Nat} (X : kn_X p s m args meth c cX9_keepsAct 2 none RX9 kn_all D tc Z (kn_A w0 s.heap.size))    : ∀ n : Nat, ∀ (H : Heap) (locs : List Loc) (ls : Array Slot) (y1 : Int32) (v_m : OV), kn_I D tc (kn_A w0 s.heap.size) s.heap [(kModel, ad_m, v_m)] H locs → lv_has ls 2 [(0, .ref (ad_m 0)), (1, .int y1)] → PX9_keepsAct_L12 post n y1 v_m → W p l e rmX9_keepsAct s m args below meth c H locs 0 0 (kn_Qv D tc w0 (fun (u : OV) => [(kModel, ad_m, u)]) (fun (u : OV) => post u) below args s 0 0) (F0 m 12 ls []) := by
  obtain ⟨S0, hr, hlocks, hK, hZ, hA⟩ := id X
  obtain ⟨hx, hb, hml, hown, hts⟩ := id S0
  intro n
  induction n with
  | zero =>
    intro H locs ls y1 v_m I hl h
    unfold PX9_keepsAct_L12 at h
    exact h.elim
  | succ n ih =>
    intro H locs ls y1 v_m I hl h
    unfold PX9_keepsAct_L12 at h
    refine lv_iload_n hx hb (kn_dec tX9_keepsAct 6 rfl) rfl (lv_at hl 1 rfl) ?_
    refine lv_sipush (v := (700)) hx hb (kn_dec tX9_keepsAct 7 rfl) (by decide) ?_
    refine lv_icmp_ge (tgt := 40) hx hb (kn_dec tX9_keepsAct 8 rfl) (by decide) (fun c1 => ?_) (fun c1 => ?_)
    · have h := h.1 c1
      refine lv_aload_n hx hb (kn_dec tX9_keepsAct 21 rfl) rfl (lv_at hl 0 rfl) ?_
      refine lv_dup hx hb (kn_dec tX9_keepsAct 22 rfl) rfl ?_
      refine kw_geti hx hb hts inX9 hown hK I 0 rfl rfl 57 (by decide) rfl (hts _ q5_17) (kn_dec tX9_keepsAct 23 rfl) ?_
      refine lv_iconst (v := (1)) hx hb (kn_dec tX9_keepsAct 24 rfl) (by decide) ?_
      refine lv_isub hx hb (kn_dec tX9_keepsAct 25 rfl) ?_
      refine lv_topi (fun x2 ex2 => ?_)
      have h := h x2 ex2
      refine kw_puti hx hb hts inX9 tyX9 tyX9_ok nmX9 hown hK I 0 rfl rfl 57 (by decide) rfl (hts _ q5_17) rfl rfl rfl (kn_dec tX9_keepsAct 26 rfl) (fun v_m3 ev_m3 H locs I => ?_)
      have h := h v_m3 ev_m3
      have I : kn_I D tc (kn_A w0 s.heap.size) s.heap [(kModel, ad_m, _)] _ _ := I
      exact wX9_keepsAct_b50 X _ _ _ _  I (lv_sub hl [0] rfl) h
    · have h := h.2 c1
      refine lv_aload_n hx hb (kn_dec tX9_keepsAct 9 rfl) rfl (lv_at hl 0 rfl) ?_
      refine kw_getl hx hb hts inX9 hown hK I 0 rfl rfl 55 (by decide) rfl (hts _ q5_15) (kn_dec tX9_keepsAct 10 rfl) rfl ?_
      refine lv_iload_n hx hb (kn_dec tX9_keepsAct 11 rfl) rfl (lv_at hl 1 rfl) ?_
      refine lv_bipush (v := (35)) hx hb (kn_dec tX9_keepsAct 12 rfl) (by decide) ?_
      refine lv_isub hx hb (kn_dec tX9_keepsAct 13 rfl) ?_
      refine lv_aload_n hx hb (kn_dec tX9_keepsAct 14 rfl) rfl (lv_at hl 0 rfl) ?_
      refine kw_getl hx hb hts inX9 hown hK I 0 rfl rfl 55 (by decide) rfl (hts _ q5_15) (kn_dec tX9_keepsAct 15 rfl) rfl ?_
      refine lv_iload_n hx hb (kn_dec tX9_keepsAct 16 rfl) rfl (lv_at hl 1 rfl) ?_
      obtain ⟨hs4, h⟩ := h
      refine kw_iald hx hb hK I 0 rfl 55 700 (List.mem_of_getElem? (i := 41) rfl) hs4 (kn_dec tX9_keepsAct 17 rfl) ?_
      refine lv_topi (fun x5 ex5 => ?_)
      have h := h x5 ex5
      obtain ⟨hs6, h⟩ := h
      refine kw_iast hx hb hK I 0 rfl 55 700 (List.mem_of_getElem? (i := 41) rfl) ukModel_55 hs6 (kn_dec tX9_keepsAct 18 rfl) (fun v_m7 ev_m7 H locs I => ?_)
      have h := h v_m7 ev_m7
      have I : kn_I D tc (kn_A w0 s.heap.size) s.heap [(kModel, ad_m, _)] _ _ := I
      refine kw_iinc (lvf := fun y => [(1, .int y), (0, .ref (ad_m 0))]) (nv := (1)) hx hb (kn_dec tX9_keepsAct 19 rfl) hl (k := 1) rfl (by decide) (by decide) (fun _ => rfl) (fun x8 ex8 ls hl => ?_)
      have h := h x8 ex8
      refine lv_goto (tgt := 12) hx hb (kn_dec tX9_keepsAct 20 rfl) (by decide) ?_
      exact ih _ _ _ _ _  I (lv_sub hl [1, 0] rfl) h
def PX9_keepsAct  (v_m : OV) (post : OV → Prop) : Prop := ((¬ (v_m.1 57) = ((20 : Int32)) → PX9_keepsAct_b50 post v_m) ∧ ((v_m.1 57) = ((20 : Int32)) → (∃ n2 : Nat, PX9_keepsAct_L12 post n2 ((35 : Int32)) v_m)))
set_option maxRecDepth 100000 in
set_option maxHeartbeats 1000000 in
theorem ctX9_keepsAct {l : Launch} {D : va_G} {tc : Nat → ClassId} {Z : (Nat → Nat) × (Nat → Nat)}  {ad_m : Nat → Nat} {v_m : OV}    {post : OV → Prop} (h : PX9_keepsAct  v_m post) : CTv l D tc Z yX9_keepsAct (Cond.code yX9_keepsAct cX9_keepsAct 2 none :: kn_all) rmX9_keepsAct 0 0 [.ref (ad_m 0)] [(kModel, ad_m, v_m)] (fun (u : OV) => [(kModel, ad_m, u)]) (fun (u : OV) => post u) := by
  refine kn_ofv (cc := cX9_keepsAct) (nL := 2) (ret := none) (lv := [(0, .ref (ad_m 0))]) (by decide) (Nat.le_of_ble_eq_true rfl) rfl (fun p e s m below meth c ls X I hl _ => ?_)
  obtain ⟨S0, hr, hlocks, hK, hZ, hA⟩ := id X
  obtain ⟨hx, hb, hml, hown, hts⟩ := id S0
  unfold PX9_keepsAct at h
  refine lv_aload_n hx hb (kn_dec tX9_keepsAct 0 rfl) rfl (lv_at hl 0 rfl) ?_
  refine kw_geti hx hb hts inX9 hown hK I 0 rfl rfl 57 (by decide) rfl (hts _ q5_17) (kn_dec tX9_keepsAct 1 rfl) ?_
  refine lv_bipush (v := (20)) hx hb (kn_dec tX9_keepsAct 2 rfl) (by decide) ?_
  refine lv_icmp_ne (tgt := 50) hx hb (kn_dec tX9_keepsAct 3 rfl) (by decide) (fun c1 => ?_) (fun c1 => ?_)
  · have h := h.1 c1
    exact wX9_keepsAct_b50 X _ _ _ _  I (lv_sub hl [0] rfl) h
  · have h := h.2 c1
    refine lv_bipush (v := (35)) hx hb (kn_dec tX9_keepsAct 4 rfl) (by decide) ?_
    refine lv_istore_n (lv' := [(1, .int _), (0, .ref (ad_m 0))]) hx hb (kn_dec tX9_keepsAct 5 rfl) rfl hl (by decide) rfl (fun ls hl => ?_)
    obtain ⟨n2, h⟩ := h
    exact wX9_keepsAct_L12 X n2 _ _ _ _ _  I (lv_sub hl [1, 0] rfl) h

/-! X9_undo -/
abbrev rmX9_undo : Room := { frames := 3, cells := 0, slots := 0, locals := 66 }
def PX9_undo  (v_m : OV) (post : Int32 → OV → Prop) : Prop := ((¬ (v_m.1 57) = ((0 : Int32)) → (∀ x2 : Int32, x2 = ((v_m.1 57) - ((1 : Int32))) → (∀ v_m3 : OV, v_m3 = si v_m 57 x2 → (PX9_movesAll v_m3 (v_m3.1 57) ((1 : Int32)) (fun v_m4 => post (v_m4.1 57) v_m4))))) ∧ ((v_m.1 57) = ((0 : Int32)) → post ((-2 : Int32)) v_m))
set_option maxRecDepth 100000 in
set_option maxHeartbeats 1000000 in
theorem ctX9_undo {l : Launch} {D : va_G} {tc : Nat → ClassId} {Z : (Nat → Nat) × (Nat → Nat)}  {ad_m : Nat → Nat} {v_m : OV}    {post : Int32 → OV → Prop} (h : PX9_undo  v_m post) : CTi l D tc Z yX9_undo (Cond.code yX9_undo cX9_undo 1 (some .int) :: kn_all) rmX9_undo 0 0 [.ref (ad_m 0)] [(kModel, ad_m, v_m)] (fun (u : OV) => [(kModel, ad_m, u)]) (fun (r : Int32) (u : OV) => post r u) := by
  refine kn_ofi (cc := cX9_undo) (nL := 1) (ret := (some .int)) (lv := [(0, .ref (ad_m 0))]) (by decide) (Nat.le_of_ble_eq_true rfl) rfl (fun p e s m below meth c ls X I hl _ => ?_)
  obtain ⟨S0, hr, hlocks, hK, hZ, hA⟩ := id X
  obtain ⟨hx, hb, hml, hown, hts⟩ := id S0
  unfold PX9_undo at h
  refine lv_aload_n hx hb (kn_dec tX9_undo 0 rfl) rfl (lv_at hl 0 rfl) ?_
  refine kw_geti hx hb hts inX9 hown hK I 0 rfl rfl 57 (by decide) rfl (hts _ q5_17) (kn_dec tX9_undo 1 rfl) ?_
  refine lv_if_ne (tgt := 10) hx hb (kn_dec tX9_undo 2 rfl) (by decide) (fun c1 => ?_) (fun c1 => ?_)
  · have h := h.1 c1
    refine lv_aload_n hx hb (kn_dec tX9_undo 5 rfl) rfl (lv_at hl 0 rfl) ?_
    refine lv_dup hx hb (kn_dec tX9_undo 6 rfl) rfl ?_
    refine kw_geti hx hb hts inX9 hown hK I 0 rfl rfl 57 (by decide) rfl (hts _ q5_17) (kn_dec tX9_undo 7 rfl) ?_
    refine lv_iconst (v := (1)) hx hb (kn_dec tX9_undo 8 rfl) (by decide) ?_
    refine lv_isub hx hb (kn_dec tX9_undo 9 rfl) ?_
    refine lv_topi (fun x2 ex2 => ?_)
    have h := h x2 ex2
    refine kw_puti hx hb hts inX9 tyX9 tyX9_ok nmX9 hown hK I 0 rfl rfl 57 (by decide) rfl (hts _ q5_17) rfl rfl rfl (kn_dec tX9_undo 10 rfl) (fun v_m3 ev_m3 H locs I => ?_)
    have h := h v_m3 ev_m3
    have I : kn_I D tc (kn_A _ s.heap.size) s.heap [(kModel, ad_m, _)] _ _ := I
    refine lv_aload_n hx hb (kn_dec tX9_undo 11 rfl) rfl (lv_at hl 0 rfl) ?_
    refine lv_aload_n hx hb (kn_dec tX9_undo 12 rfl) rfl (lv_at hl 0 rfl) ?_
    refine kw_geti hx hb hts inX9 hown hK I 0 rfl rfl 57 (by decide) rfl (hts _ q5_17) (kn_dec tX9_undo 13 rfl) ?_
    refine lv_iconst (v := (1)) hx hb (kn_dec tX9_undo 14 rfl) (by decide) ?_
    refine kw_callv (wc := [(kModel, ad_m, _)]) (wr := []) I hA [0] [] rfl rfl (by decide) (by decide) (kn_runV (As := [.int _, .int _]) S0 hK hZ hA I ((ctX9_movesAll (Or.inr rfl) h).met _) (kn_cwV 2 hts q6_131 q6_133 q0_61 q1_10 q6_134 rfl rfl (by decide +kernel) ⟨(Nat.le_of_ble_eq_true rfl), (Nat.le_of_ble_eq_true rfl)⟩) [0] rfl (by decide) 0 rfl rfl rfl rfl hl.1 rfl (Nat.le_of_ble_eq_true rfl) (kn_dec tX9_undo 15 rfl) ⟨(Nat.le_of_ble_eq_true rfl), (Nat.le_of_ble_eq_true rfl)⟩) (fun u5 H locs h I => ?_)
    have I : kn_I D tc (kn_A _ s.heap.size) s.heap [(kModel, ad_m, _)] _ _ := I
    refine lv_aload_n hx hb (kn_dec tX9_undo 16 rfl) rfl (lv_at hl 0 rfl) ?_
    refine kw_geti hx hb hts inX9 hown hK I 0 rfl rfl 57 (by decide) rfl (hts _ q5_17) (kn_dec tX9_undo 17 rfl) ?_
    exact kw_iret hx hb hr hlocks I _ rfl h (kn_dec tX9_undo 18 rfl)
  · have h := h.2 c1
    refine lv_bipush (v := (-2)) hx hb (kn_dec tX9_undo 3 rfl) (by decide) ?_
    exact kw_iret hx hb hr hlocks I _ rfl h (kn_dec tX9_undo 4 rfl)

/-! X9_day -/
abbrev rmX9_day : Room := { frames := 8, cells := 0, slots := 0, locals := 185 }
def PX9_day  (v_m : OV) (post : Int32 → OV → Prop) : Prop := (PX9_isHill v_m (fun r1 => ((r1 = ((0 : Int32)) → post ((-1 : Int32)) v_m) ∧ (¬ r1 = ((0 : Int32)) → ((¬ (v_m.2.1 1 ((8 : Int32)).toNatClampNeg) = ((999 : Int32)) → (PX9_keepsAct v_m (fun v_m5 => (PX9_goes v_m5 (fun r8 v_m7 => post r8 v_m7))))) ∧ ((v_m.2.1 1 ((8 : Int32)).toNatClampNeg) = ((999 : Int32)) → post ((-1 : Int32)) v_m))))))
set_option maxRecDepth 100000 in
set_option maxHeartbeats 1000000 in
theorem ctX9_day {l : Launch} {D : va_G} {tc : Nat → ClassId} {Z : (Nat → Nat) × (Nat → Nat)}  {ad_m : Nat → Nat} {v_m : OV}    {post : Int32 → OV → Prop} (h : PX9_day  v_m post) : CTi l D tc Z yX9_day (Cond.code yX9_day cX9_day 1 (some .int) :: kn_all) rmX9_day 0 0 [.ref (ad_m 0)] [(kModel, ad_m, v_m)] (fun (u : OV) => [(kModel, ad_m, u)]) (fun (r : Int32) (u : OV) => post r u) := by
  refine kn_ofi (cc := cX9_day) (nL := 1) (ret := (some .int)) (lv := [(0, .ref (ad_m 0))]) (by decide) (Nat.le_of_ble_eq_true rfl) rfl (fun p e s m below meth c ls X I hl _ => ?_)
  obtain ⟨S0, hr, hlocks, hK, hZ, hA⟩ := id X
  obtain ⟨hx, hb, hml, hown, hts⟩ := id S0
  unfold PX9_day at h
  refine lv_aload_n hx hb (kn_dec tX9_day 0 rfl) rfl (lv_at hl 0 rfl) ?_
  refine kw_calli (wc := [(kModel, ad_m, _)]) (wr := []) I hA [0] [] rfl rfl (by decide) (by decide) (kn_runV (As := []) S0 hK hZ hA I ((ctX9_isHill h).met _) (kn_cwV 0 hts q6_147 q6_149 q0_64 q1_10 q6_150 rfl rfl (by decide +kernel) ⟨(Nat.le_of_ble_eq_true rfl), (Nat.le_of_ble_eq_true rfl)⟩) [0] rfl (by decide) 0 rfl rfl rfl rfl hl.1 rfl (Nat.le_of_ble_eq_true rfl) (kn_dec tX9_day 1 rfl) ⟨(Nat.le_of_ble_eq_true rfl), (Nat.le_of_ble_eq_true rfl)⟩) (fun r1 u2 H locs h I => ?_)
  obtain ⟨hz_r1, h⟩ := h
  have I : kn_I D tc (kn_A _ s.heap.size) s.heap [(kModel, ad_m, _)] _ _ := I
  refine lv_if_eq (tgt := 20) hx hb (kn_dec tX9_day 2 rfl) (by decide) (fun c3 => ?_) (fun c3 => ?_)
  · have h := h.1 c3
    refine lv_iconst (v := (-1)) hx hb (kn_dec tX9_day 9 rfl) (by decide) ?_
    exact kw_iret hx hb hr hlocks I _ rfl h (kn_dec tX9_day 10 rfl)
  · have h := h.2 c3
    refine lv_aload_n hx hb (kn_dec tX9_day 3 rfl) rfl (lv_at hl 0 rfl) ?_
    refine kw_getl hx hb hts inX9 hown hK I 0 rfl rfl 1 (by decide) rfl (hts _ q4_201) (kn_dec tX9_day 4 rfl) rfl ?_
    refine lv_bipush (v := (8)) hx hb (kn_dec tX9_day 5 rfl) (by decide) ?_
    refine kw_iald hx hb hK I 0 rfl 1 12 (List.mem_of_getElem? (i := 0) rfl) (by unfold vp_in; decide) (kn_dec tX9_day 6 rfl) ?_
    refine lv_sipush (v := (999)) hx hb (kn_dec tX9_day 7 rfl) (by decide) ?_
    refine lv_icmp_ne (tgt := 22) hx hb (kn_dec tX9_day 8 rfl) (by decide) (fun c4 => ?_) (fun c4 => ?_)
    · have h := h.1 c4
      refine lv_aload_n hx hb (kn_dec tX9_day 11 rfl) rfl (lv_at hl 0 rfl) ?_
      refine kw_callv (wc := [(kModel, ad_m, _)]) (wr := []) I hA [0] [] rfl rfl (by decide) (by decide) (kn_runV (As := []) S0 hK hZ hA I ((ctX9_keepsAct h).met _) (kn_cwV 0 hts q6_151 q6_153 q0_65 q1_10 q6_154 rfl rfl (by decide +kernel) ⟨(Nat.le_of_ble_eq_true rfl), (Nat.le_of_ble_eq_true rfl)⟩) [0] rfl (by decide) 0 rfl rfl rfl rfl hl.1 rfl (Nat.le_of_ble_eq_true rfl) (kn_dec tX9_day 12 rfl) ⟨(Nat.le_of_ble_eq_true rfl), (Nat.le_of_ble_eq_true rfl)⟩) (fun u6 H locs h I => ?_)
      have I : kn_I D tc (kn_A _ s.heap.size) s.heap [(kModel, ad_m, _)] _ _ := I
      refine lv_aload_n hx hb (kn_dec tX9_day 13 rfl) rfl (lv_at hl 0 rfl) ?_
      refine kw_calli (wc := [(kModel, ad_m, _)]) (wr := []) I hA [0] [] rfl rfl (by decide) (by decide) (kn_runV (As := []) S0 hK hZ hA I ((ctX9_goes h).met _) (kn_cwV 0 hts q6_155 q6_157 q0_66 q1_10 q6_158 rfl rfl (by decide +kernel) ⟨(Nat.le_of_ble_eq_true rfl), (Nat.le_of_ble_eq_true rfl)⟩) [0] rfl (by decide) 0 rfl rfl rfl rfl hl.1 rfl (Nat.le_of_ble_eq_true rfl) (kn_dec tX9_day 14 rfl) ⟨(Nat.le_of_ble_eq_true rfl), (Nat.le_of_ble_eq_true rfl)⟩) (fun r8 u9 H locs h I => ?_)
      have I : kn_I D tc (kn_A _ s.heap.size) s.heap [(kModel, ad_m, _)] _ _ := I
      exact kw_iret hx hb hr hlocks I _ rfl h (kn_dec tX9_day 15 rfl)
    · have h := h.2 c4
      refine lv_iconst (v := (-1)) hx hb (kn_dec tX9_day 9 rfl) (by decide) ?_
      exact kw_iret hx hb hr hlocks I _ rfl h (kn_dec tX9_day 10 rfl)

/-! X9_hide -/
abbrev rmX9_hide : Room := { frames := 4, cells := 0, slots := 0, locals := 87 }
def PX9_hide  (v_m : OV) (a1 : Int32) (post : Int32 → OV → Prop) : Prop := (PX9_isStone v_m a1 (fun r1 => ((r1 = ((0 : Int32)) → post ((-2 : Int32)) v_m) ∧ (¬ r1 = ((0 : Int32)) → ((¬ (v_m.2.1 1 ((7 : Int32)).toNatClampNeg) = a1 → (PX9_keepsAct v_m (fun v_m5 => (∀ x7 : Int32, x7 = (v_m5.2.1 1 ((7 : Int32)).toNatClampNeg) → (∀ v_m8 : OV, v_m8 = sa v_m5 1 (upd (v_m5.2.1 1) ((7 : Int32)).toNatClampNeg a1) → post x7 v_m8))))) ∧ ((v_m.2.1 1 ((7 : Int32)).toNatClampNeg) = a1 → post ((-2 : Int32)) v_m))))))
set_option maxRecDepth 100000 in
set_option maxHeartbeats 1000000 in
theorem ctX9_hide {l : Launch} {D : va_G} {tc : Nat → ClassId} {Z : (Nat → Nat) × (Nat → Nat)}  {ad_m : Nat → Nat} {v_m : OV} {a1 : Int32}    {post : Int32 → OV → Prop} (h : PX9_hide  v_m a1 post) : CTi l D tc Z yX9_hide (Cond.code yX9_hide cX9_hide 3 (some .int) :: kn_all) rmX9_hide 0 0 [.ref (ad_m 0), .int a1] [(kModel, ad_m, v_m)] (fun (u : OV) => [(kModel, ad_m, u)]) (fun (r : Int32) (u : OV) => post r u) := by
  refine kn_ofi (cc := cX9_hide) (nL := 3) (ret := (some .int)) (lv := [(0, .ref (ad_m 0)), (1, .int a1)]) (by decide) (Nat.le_of_ble_eq_true rfl) rfl (fun p e s m below meth c ls X I hl _ => ?_)
  obtain ⟨S0, hr, hlocks, hK, hZ, hA⟩ := id X
  obtain ⟨hx, hb, hml, hown, hts⟩ := id S0
  unfold PX9_hide at h
  refine lv_aload_n hx hb (kn_dec tX9_hide 0 rfl) rfl (lv_at hl 0 rfl) ?_
  refine lv_iload_n hx hb (kn_dec tX9_hide 1 rfl) rfl (lv_at hl 1 rfl) ?_
  refine kw_calli (wc := [(kModel, ad_m, _)]) (wr := []) I hA [0] [] rfl rfl (by decide) (by decide) (kn_runV (As := [.int _]) S0 hK hZ hA I ((ctX9_isStone h).met _) (kn_cwV 1 hts q6_104 q6_106 q0_58 q1_10 q6_107 rfl rfl (by decide +kernel) ⟨(Nat.le_of_ble_eq_true rfl), (Nat.le_of_ble_eq_true rfl)⟩) [0] rfl (by decide) 0 rfl rfl rfl rfl hl.1 rfl (Nat.le_of_ble_eq_true rfl) (kn_dec tX9_hide 2 rfl) ⟨(Nat.le_of_ble_eq_true rfl), (Nat.le_of_ble_eq_true rfl)⟩) (fun r1 u2 H locs h I => ?_)
  obtain ⟨hz_r1, h⟩ := h
  have I : kn_I D tc (kn_A _ s.heap.size) s.heap [(kModel, ad_m, _)] _ _ := I
  refine lv_if_eq (tgt := 19) hx hb (kn_dec tX9_hide 3 rfl) (by decide) (fun c3 => ?_) (fun c3 => ?_)
  · have h := h.1 c3
    refine lv_bipush (v := (-2)) hx hb (kn_dec tX9_hide 10 rfl) (by decide) ?_
    exact kw_iret hx hb hr hlocks I _ rfl h (kn_dec tX9_hide 11 rfl)
  · have h := h.2 c3
    refine lv_aload_n hx hb (kn_dec tX9_hide 4 rfl) rfl (lv_at hl 0 rfl) ?_
    refine kw_getl hx hb hts inX9 hown hK I 0 rfl rfl 1 (by decide) rfl (hts _ q4_201) (kn_dec tX9_hide 5 rfl) rfl ?_
    refine lv_bipush (v := (7)) hx hb (kn_dec tX9_hide 6 rfl) (by decide) ?_
    refine kw_iald hx hb hK I 0 rfl 1 12 (List.mem_of_getElem? (i := 0) rfl) (by unfold vp_in; decide) (kn_dec tX9_hide 7 rfl) ?_
    refine lv_iload_n hx hb (kn_dec tX9_hide 8 rfl) rfl (lv_at hl 1 rfl) ?_
    refine lv_icmp_ne (tgt := 22) hx hb (kn_dec tX9_hide 9 rfl) (by decide) (fun c4 => ?_) (fun c4 => ?_)
    · have h := h.1 c4
      refine lv_aload_n hx hb (kn_dec tX9_hide 12 rfl) rfl (lv_at hl 0 rfl) ?_
      refine kw_callv (wc := [(kModel, ad_m, _)]) (wr := []) I hA [0] [] rfl rfl (by decide) (by decide) (kn_runV (As := []) S0 hK hZ hA I ((ctX9_keepsAct h).met _) (kn_cwV 0 hts q6_151 q6_153 q0_65 q1_10 q6_154 rfl rfl (by decide +kernel) ⟨(Nat.le_of_ble_eq_true rfl), (Nat.le_of_ble_eq_true rfl)⟩) [0] rfl (by decide) 0 rfl rfl rfl rfl hl.1 rfl (Nat.le_of_ble_eq_true rfl) (kn_dec tX9_hide 13 rfl) ⟨(Nat.le_of_ble_eq_true rfl), (Nat.le_of_ble_eq_true rfl)⟩) (fun u6 H locs h I => ?_)
      have I : kn_I D tc (kn_A _ s.heap.size) s.heap [(kModel, ad_m, _)] _ _ := I
      refine lv_aload_n hx hb (kn_dec tX9_hide 14 rfl) rfl (lv_at hl 0 rfl) ?_
      refine kw_getl hx hb hts inX9 hown hK I 0 rfl rfl 1 (by decide) rfl (hts _ q4_201) (kn_dec tX9_hide 15 rfl) rfl ?_
      refine lv_bipush (v := (7)) hx hb (kn_dec tX9_hide 16 rfl) (by decide) ?_
      refine kw_iald hx hb hK I 0 rfl 1 12 (List.mem_of_getElem? (i := 0) rfl) (by unfold vp_in; decide) (kn_dec tX9_hide 17 rfl) ?_
      refine lv_topi (fun x7 ex7 => ?_)
      have h := h x7 ex7
      refine lv_istore_n (lv' := [(2, .int _), (0, .ref (ad_m 0)), (1, .int _)]) hx hb (kn_dec tX9_hide 18 rfl) rfl hl (by decide) rfl (fun ls hl => ?_)
      refine lv_aload_n hx hb (kn_dec tX9_hide 19 rfl) rfl (lv_at hl 1 rfl) ?_
      refine kw_getl hx hb hts inX9 hown hK I 0 rfl rfl 1 (by decide) rfl (hts _ q4_201) (kn_dec tX9_hide 20 rfl) rfl ?_
      refine lv_bipush (v := (7)) hx hb (kn_dec tX9_hide 21 rfl) (by decide) ?_
      refine lv_iload_n hx hb (kn_dec tX9_hide 22 rfl) rfl (lv_at hl 2 rfl) ?_
      refine kw_iast hx hb hK I 0 rfl 1 12 (List.mem_of_getElem? (i := 0) rfl) ukModel_1 (by unfold vp_in; decide) (kn_dec tX9_hide 23 rfl) (fun v_m8 ev_m8 H locs I => ?_)
      have h := h v_m8 ev_m8
      have I : kn_I D tc (kn_A _ s.heap.size) s.heap [(kModel, ad_m, _)] _ _ := I
      refine lv_iload_n hx hb (kn_dec tX9_hide 24 rfl) rfl (lv_at hl 0 rfl) ?_
      exact kw_iret hx hb hr hlocks I _ rfl h (kn_dec tX9_hide 25 rfl)
    · have h := h.2 c4
      refine lv_bipush (v := (-2)) hx hb (kn_dec tX9_hide 10 rfl) (by decide) ?_
      exact kw_iret hx hb hr hlocks I _ rfl h (kn_dec tX9_hide 11 rfl)

/-! X9_rest -/
abbrev rmX9_rest : Room := { frames := 4, cells := 0, slots := 0, locals := 87 }
def PX9_rest  (v_m : OV) (a1 : Int32) (post : Int32 → OV → Prop) : Prop := (PX9_isStone v_m a1 (fun r1 => ((r1 = ((0 : Int32)) → post ((-1 : Int32)) v_m) ∧ (¬ r1 = ((0 : Int32)) → (vp_in a1 10 ∧ ((¬ (v_m.2.1 5 a1.toNatClampNeg) = ((0 : Int32)) → (PX9_keepsAct v_m (fun v_m6 => (vp_in a1 10 ∧ (∀ x9 : Int32, x9 = (v_m6.2.1 5 a1.toNatClampNeg) → (vp_in a1 10 ∧ (∀ v_m11 : OV, v_m11 = sa v_m6 5 (upd (v_m6.2.1 5) a1.toNatClampNeg ((0 : Int32))) → post x9 v_m11))))))) ∧ ((v_m.2.1 5 a1.toNatClampNeg) = ((0 : Int32)) → post ((-1 : Int32)) v_m)))))))
set_option maxRecDepth 100000 in
set_option maxHeartbeats 1000000 in
theorem ctX9_rest {l : Launch} {D : va_G} {tc : Nat → ClassId} {Z : (Nat → Nat) × (Nat → Nat)}  {ad_m : Nat → Nat} {v_m : OV} {a1 : Int32}    {post : Int32 → OV → Prop} (h : PX9_rest  v_m a1 post) : CTi l D tc Z yX9_rest (Cond.code yX9_rest cX9_rest 3 (some .int) :: kn_all) rmX9_rest 0 0 [.ref (ad_m 0), .int a1] [(kModel, ad_m, v_m)] (fun (u : OV) => [(kModel, ad_m, u)]) (fun (r : Int32) (u : OV) => post r u) := by
  refine kn_ofi (cc := cX9_rest) (nL := 3) (ret := (some .int)) (lv := [(0, .ref (ad_m 0)), (1, .int a1)]) (by decide) (Nat.le_of_ble_eq_true rfl) rfl (fun p e s m below meth c ls X I hl _ => ?_)
  obtain ⟨S0, hr, hlocks, hK, hZ, hA⟩ := id X
  obtain ⟨hx, hb, hml, hown, hts⟩ := id S0
  unfold PX9_rest at h
  refine lv_aload_n hx hb (kn_dec tX9_rest 0 rfl) rfl (lv_at hl 0 rfl) ?_
  refine lv_iload_n hx hb (kn_dec tX9_rest 1 rfl) rfl (lv_at hl 1 rfl) ?_
  refine kw_calli (wc := [(kModel, ad_m, _)]) (wr := []) I hA [0] [] rfl rfl (by decide) (by decide) (kn_runV (As := [.int _]) S0 hK hZ hA I ((ctX9_isStone h).met _) (kn_cwV 1 hts q6_104 q6_106 q0_58 q1_10 q6_107 rfl rfl (by decide +kernel) ⟨(Nat.le_of_ble_eq_true rfl), (Nat.le_of_ble_eq_true rfl)⟩) [0] rfl (by decide) 0 rfl rfl rfl rfl hl.1 rfl (Nat.le_of_ble_eq_true rfl) (kn_dec tX9_rest 2 rfl) ⟨(Nat.le_of_ble_eq_true rfl), (Nat.le_of_ble_eq_true rfl)⟩) (fun r1 u2 H locs h I => ?_)
  obtain ⟨hz_r1, h⟩ := h
  have I : kn_I D tc (kn_A _ s.heap.size) s.heap [(kModel, ad_m, _)] _ _ := I
  refine lv_if_eq (tgt := 17) hx hb (kn_dec tX9_rest 3 rfl) (by decide) (fun c3 => ?_) (fun c3 => ?_)
  · have h := h.1 c3
    refine lv_iconst (v := (-1)) hx hb (kn_dec tX9_rest 9 rfl) (by decide) ?_
    exact kw_iret hx hb hr hlocks I _ rfl h (kn_dec tX9_rest 10 rfl)
  · have h := h.2 c3
    refine lv_aload_n hx hb (kn_dec tX9_rest 4 rfl) rfl (lv_at hl 0 rfl) ?_
    refine kw_getl hx hb hts inX9 hown hK I 0 rfl rfl 5 (by decide) rfl (hts _ q4_205) (kn_dec tX9_rest 5 rfl) rfl ?_
    refine lv_iload_n hx hb (kn_dec tX9_rest 6 rfl) rfl (lv_at hl 1 rfl) ?_
    obtain ⟨hs4, h⟩ := h
    refine kw_iald hx hb hK I 0 rfl 5 10 (List.mem_of_getElem? (i := 4) rfl) hs4 (kn_dec tX9_rest 7 rfl) ?_
    refine lv_if_ne (tgt := 19) hx hb (kn_dec tX9_rest 8 rfl) (by decide) (fun c5 => ?_) (fun c5 => ?_)
    · have h := h.1 c5
      refine lv_aload_n hx hb (kn_dec tX9_rest 11 rfl) rfl (lv_at hl 0 rfl) ?_
      refine kw_callv (wc := [(kModel, ad_m, _)]) (wr := []) I hA [0] [] rfl rfl (by decide) (by decide) (kn_runV (As := []) S0 hK hZ hA I ((ctX9_keepsAct h).met _) (kn_cwV 0 hts q6_151 q6_153 q0_65 q1_10 q6_154 rfl rfl (by decide +kernel) ⟨(Nat.le_of_ble_eq_true rfl), (Nat.le_of_ble_eq_true rfl)⟩) [0] rfl (by decide) 0 rfl rfl rfl rfl hl.1 rfl (Nat.le_of_ble_eq_true rfl) (kn_dec tX9_rest 12 rfl) ⟨(Nat.le_of_ble_eq_true rfl), (Nat.le_of_ble_eq_true rfl)⟩) (fun u7 H locs h I => ?_)
      have I : kn_I D tc (kn_A _ s.heap.size) s.heap [(kModel, ad_m, _)] _ _ := I
      refine lv_aload_n hx hb (kn_dec tX9_rest 13 rfl) rfl (lv_at hl 0 rfl) ?_
      refine kw_getl hx hb hts inX9 hown hK I 0 rfl rfl 5 (by decide) rfl (hts _ q4_205) (kn_dec tX9_rest 14 rfl) rfl ?_
      refine lv_iload_n hx hb (kn_dec tX9_rest 15 rfl) rfl (lv_at hl 1 rfl) ?_
      obtain ⟨hs8, h⟩ := h
      refine kw_iald hx hb hK I 0 rfl 5 10 (List.mem_of_getElem? (i := 4) rfl) hs8 (kn_dec tX9_rest 16 rfl) ?_
      refine lv_topi (fun x9 ex9 => ?_)
      have h := h x9 ex9
      refine lv_istore_n (lv' := [(2, .int _), (0, .ref (ad_m 0)), (1, .int _)]) hx hb (kn_dec tX9_rest 17 rfl) rfl hl (by decide) rfl (fun ls hl => ?_)
      refine lv_aload_n hx hb (kn_dec tX9_rest 18 rfl) rfl (lv_at hl 1 rfl) ?_
      refine kw_getl hx hb hts inX9 hown hK I 0 rfl rfl 5 (by decide) rfl (hts _ q4_205) (kn_dec tX9_rest 19 rfl) rfl ?_
      refine lv_iload_n hx hb (kn_dec tX9_rest 20 rfl) rfl (lv_at hl 2 rfl) ?_
      refine lv_iconst (v := (0)) hx hb (kn_dec tX9_rest 21 rfl) (by decide) ?_
      obtain ⟨hs10, h⟩ := h
      refine kw_iast hx hb hK I 0 rfl 5 10 (List.mem_of_getElem? (i := 4) rfl) ukModel_5 hs10 (kn_dec tX9_rest 22 rfl) (fun v_m11 ev_m11 H locs I => ?_)
      have h := h v_m11 ev_m11
      have I : kn_I D tc (kn_A _ s.heap.size) s.heap [(kModel, ad_m, _)] _ _ := I
      refine lv_iload_n hx hb (kn_dec tX9_rest 23 rfl) rfl (lv_at hl 0 rfl) ?_
      exact kw_iret hx hb hr hlocks I _ rfl h (kn_dec tX9_rest 24 rfl)
    · have h := h.2 c5
      refine lv_iconst (v := (-1)) hx hb (kn_dec tX9_rest 9 rfl) (by decide) ?_
      exact kw_iret hx hb hr hlocks I _ rfl h (kn_dec tX9_rest 10 rfl)

/-! X9_figure -/
abbrev rmX9_figure : Room := { frames := 4, cells := 0, slots := 0, locals := 87 }
def PX9_figure  (v_m : OV) (a1 : Int32) (post : Int32 → OV → Prop) : Prop := (PX9_isHill v_m (fun r1 => ((r1 = ((0 : Int32)) → post ((-1 : Int32)) v_m) ∧ (¬ r1 = ((0 : Int32)) → (PX9_in a1.toInt64 ((0 : Int64)) ((99 : Int64)) (fun r4 => ((r4 = ((0 : Int32)) → post ((-1 : Int32)) v_m) ∧ (¬ r4 = ((0 : Int32)) → ((¬ (v_m.2.1 1 ((0 : Int32)).toNatClampNeg) = a1 → (PX9_keepsAct v_m (fun v_m8 => (∀ x10 : Int32, x10 = (v_m8.2.1 1 ((0 : Int32)).toNatClampNeg) → (∀ v_m11 : OV, v_m11 = sa v_m8 1 (upd (v_m8.2.1 1) ((0 : Int32)).toNatClampNeg a1) → post x10 v_m11))))) ∧ ((v_m.2.1 1 ((0 : Int32)).toNatClampNeg) = a1 → post ((-1 : Int32)) v_m))))))))))
set_option maxRecDepth 100000 in
set_option maxHeartbeats 1000000 in
theorem ctX9_figure {l : Launch} {D : va_G} {tc : Nat → ClassId} {Z : (Nat → Nat) × (Nat → Nat)}  {ad_m : Nat → Nat} {v_m : OV} {a1 : Int32}    {post : Int32 → OV → Prop} (h : PX9_figure  v_m a1 post) : CTi l D tc Z yX9_figure (Cond.code yX9_figure cX9_figure 3 (some .int) :: kn_all) rmX9_figure 0 0 [.ref (ad_m 0), .int a1] [(kModel, ad_m, v_m)] (fun (u : OV) => [(kModel, ad_m, u)]) (fun (r : Int32) (u : OV) => post r u) := by
  refine kn_ofi (cc := cX9_figure) (nL := 3) (ret := (some .int)) (lv := [(0, .ref (ad_m 0)), (1, .int a1)]) (by decide) (Nat.le_of_ble_eq_true rfl) rfl (fun p e s m below meth c ls X I hl _ => ?_)
  obtain ⟨S0, hr, hlocks, hK, hZ, hA⟩ := id X
  obtain ⟨hx, hb, hml, hown, hts⟩ := id S0
  unfold PX9_figure at h
  refine lv_aload_n hx hb (kn_dec tX9_figure 0 rfl) rfl (lv_at hl 0 rfl) ?_
  refine kw_calli (wc := [(kModel, ad_m, _)]) (wr := []) I hA [0] [] rfl rfl (by decide) (by decide) (kn_runV (As := []) S0 hK hZ hA I ((ctX9_isHill h).met _) (kn_cwV 0 hts q6_147 q6_149 q0_64 q1_10 q6_150 rfl rfl (by decide +kernel) ⟨(Nat.le_of_ble_eq_true rfl), (Nat.le_of_ble_eq_true rfl)⟩) [0] rfl (by decide) 0 rfl rfl rfl rfl hl.1 rfl (Nat.le_of_ble_eq_true rfl) (kn_dec tX9_figure 1 rfl) ⟨(Nat.le_of_ble_eq_true rfl), (Nat.le_of_ble_eq_true rfl)⟩) (fun r1 u2 H locs h I => ?_)
  obtain ⟨hz_r1, h⟩ := h
  have I : kn_I D tc (kn_A _ s.heap.size) s.heap [(kModel, ad_m, _)] _ _ := I
  refine lv_if_eq (tgt := 29) hx hb (kn_dec tX9_figure 2 rfl) (by decide) (fun c3 => ?_) (fun c3 => ?_)
  · have h := h.1 c3
    refine lv_iconst (v := (-1)) hx hb (kn_dec tX9_figure 15 rfl) (by decide) ?_
    exact kw_iret hx hb hr hlocks I _ rfl h (kn_dec tX9_figure 16 rfl)
  · have h := h.2 c3
    refine lv_iload_n hx hb (kn_dec tX9_figure 3 rfl) rfl (lv_at hl 1 rfl) ?_
    refine lv_i2l hx hb (kn_dec tX9_figure 4 rfl) rfl ?_
    refine lv_lconst (v := 0) hx hb (kn_dec tX9_figure 5 rfl) (by decide) ?_
    refine lv_ldc2 (v := (99)) hx hb hown (hts _ q6_227) (kn_dec tX9_figure 6 rfl) ?_
    refine kw_calli (wc := []) (wr := [(kModel, ad_m, _)]) I hA [] [0] rfl rfl (by decide) (by decide) (kn_runS (As := [.long _, .long _, .long _]) S0 hK hZ hA I ((ctX9_in h).met _) (kn_cwS 3 hts q6_1 q6_2 q1_10 q6_3 rfl rfl (by decide +kernel) ⟨(Nat.le_of_ble_eq_true rfl), (Nat.le_of_ble_eq_true rfl)⟩) [] rfl (by decide) rfl hl.1 rfl (Nat.le_of_ble_eq_true rfl) (kn_dec tX9_figure 7 rfl) ⟨(Nat.le_of_ble_eq_true rfl), (Nat.le_of_ble_eq_true rfl)⟩) (fun r4 u5 H locs h I => ?_)
    obtain ⟨hz_r4, h⟩ := h
    have I : kn_I D tc (kn_A _ s.heap.size) s.heap [(kModel, ad_m, _)] _ _ := I
    refine lv_if_eq (tgt := 29) hx hb (kn_dec tX9_figure 8 rfl) (by decide) (fun c6 => ?_) (fun c6 => ?_)
    · have h := h.1 c6
      refine lv_iconst (v := (-1)) hx hb (kn_dec tX9_figure 15 rfl) (by decide) ?_
      exact kw_iret hx hb hr hlocks I _ rfl h (kn_dec tX9_figure 16 rfl)
    · have h := h.2 c6
      refine lv_aload_n hx hb (kn_dec tX9_figure 9 rfl) rfl (lv_at hl 0 rfl) ?_
      refine kw_getl hx hb hts inX9 hown hK I 0 rfl rfl 1 (by decide) rfl (hts _ q4_201) (kn_dec tX9_figure 10 rfl) rfl ?_
      refine lv_iconst (v := (0)) hx hb (kn_dec tX9_figure 11 rfl) (by decide) ?_
      refine kw_iald hx hb hK I 0 rfl 1 12 (List.mem_of_getElem? (i := 0) rfl) (by unfold vp_in; decide) (kn_dec tX9_figure 12 rfl) ?_
      refine lv_iload_n hx hb (kn_dec tX9_figure 13 rfl) rfl (lv_at hl 1 rfl) ?_
      refine lv_icmp_ne (tgt := 31) hx hb (kn_dec tX9_figure 14 rfl) (by decide) (fun c7 => ?_) (fun c7 => ?_)
      · have h := h.1 c7
        refine lv_aload_n hx hb (kn_dec tX9_figure 17 rfl) rfl (lv_at hl 0 rfl) ?_
        refine kw_callv (wc := [(kModel, ad_m, _)]) (wr := []) I hA [0] [] rfl rfl (by decide) (by decide) (kn_runV (As := []) S0 hK hZ hA I ((ctX9_keepsAct h).met _) (kn_cwV 0 hts q6_151 q6_153 q0_65 q1_10 q6_154 rfl rfl (by decide +kernel) ⟨(Nat.le_of_ble_eq_true rfl), (Nat.le_of_ble_eq_true rfl)⟩) [0] rfl (by decide) 0 rfl rfl rfl rfl hl.1 rfl (Nat.le_of_ble_eq_true rfl) (kn_dec tX9_figure 18 rfl) ⟨(Nat.le_of_ble_eq_true rfl), (Nat.le_of_ble_eq_true rfl)⟩) (fun u9 H locs h I => ?_)
        have I : kn_I D tc (kn_A _ s.heap.size) s.heap [(kModel, ad_m, _)] _ _ := I
        refine lv_aload_n hx hb (kn_dec tX9_figure 19 rfl) rfl (lv_at hl 0 rfl) ?_
        refine kw_getl hx hb hts inX9 hown hK I 0 rfl rfl 1 (by decide) rfl (hts _ q4_201) (kn_dec tX9_figure 20 rfl) rfl ?_
        refine lv_iconst (v := (0)) hx hb (kn_dec tX9_figure 21 rfl) (by decide) ?_
        refine kw_iald hx hb hK I 0 rfl 1 12 (List.mem_of_getElem? (i := 0) rfl) (by unfold vp_in; decide) (kn_dec tX9_figure 22 rfl) ?_
        refine lv_topi (fun x10 ex10 => ?_)
        have h := h x10 ex10
        refine lv_istore_n (lv' := [(2, .int _), (0, .ref (ad_m 0)), (1, .int _)]) hx hb (kn_dec tX9_figure 23 rfl) rfl hl (by decide) rfl (fun ls hl => ?_)
        refine lv_aload_n hx hb (kn_dec tX9_figure 24 rfl) rfl (lv_at hl 1 rfl) ?_
        refine kw_getl hx hb hts inX9 hown hK I 0 rfl rfl 1 (by decide) rfl (hts _ q4_201) (kn_dec tX9_figure 25 rfl) rfl ?_
        refine lv_iconst (v := (0)) hx hb (kn_dec tX9_figure 26 rfl) (by decide) ?_
        refine lv_iload_n hx hb (kn_dec tX9_figure 27 rfl) rfl (lv_at hl 2 rfl) ?_
        refine kw_iast hx hb hK I 0 rfl 1 12 (List.mem_of_getElem? (i := 0) rfl) ukModel_1 (by unfold vp_in; decide) (kn_dec tX9_figure 28 rfl) (fun v_m11 ev_m11 H locs I => ?_)
        have h := h v_m11 ev_m11
        have I : kn_I D tc (kn_A _ s.heap.size) s.heap [(kModel, ad_m, _)] _ _ := I
        refine lv_iload_n hx hb (kn_dec tX9_figure 29 rfl) rfl (lv_at hl 0 rfl) ?_
        exact kw_iret hx hb hr hlocks I _ rfl h (kn_dec tX9_figure 30 rfl)
      · have h := h.2 c7
        refine lv_iconst (v := (-1)) hx hb (kn_dec tX9_figure 15 rfl) (by decide) ?_
        exact kw_iret hx hb hr hlocks I _ rfl h (kn_dec tX9_figure 16 rfl)

/-! X9_forget -/
abbrev rmX9_forget : Room := { frames := 4, cells := 0, slots := 0, locals := 87 }
def PX9_forget  (v_m : OV) (a1 : Int32) (post : Int32 → OV → Prop) : Prop := (PX9_isSeeker v_m a1 (fun r1 => ((r1 = ((0 : Int32)) → post ((-1 : Int32)) v_m) ∧ (¬ r1 = ((0 : Int32)) → (vp_in a1 4 ∧ ((¬ (v_m.2.1 11 a1.toNatClampNeg) = ((-1 : Int32)) → (PX9_keepsAct v_m (fun v_m6 => (vp_in a1 4 ∧ (∀ x9 : Int32, x9 = (v_m6.2.1 11 a1.toNatClampNeg) → (vp_in a1 4 ∧ (∀ v_m11 : OV, v_m11 = sa v_m6 11 (upd (v_m6.2.1 11) a1.toNatClampNeg ((-1 : Int32))) → post x9 v_m11))))))) ∧ ((v_m.2.1 11 a1.toNatClampNeg) = ((-1 : Int32)) → post ((-1 : Int32)) v_m)))))))
set_option maxRecDepth 100000 in
set_option maxHeartbeats 1000000 in
theorem ctX9_forget {l : Launch} {D : va_G} {tc : Nat → ClassId} {Z : (Nat → Nat) × (Nat → Nat)}  {ad_m : Nat → Nat} {v_m : OV} {a1 : Int32}    {post : Int32 → OV → Prop} (h : PX9_forget  v_m a1 post) : CTi l D tc Z yX9_forget (Cond.code yX9_forget cX9_forget 3 (some .int) :: kn_all) rmX9_forget 0 0 [.ref (ad_m 0), .int a1] [(kModel, ad_m, v_m)] (fun (u : OV) => [(kModel, ad_m, u)]) (fun (r : Int32) (u : OV) => post r u) := by
  refine kn_ofi (cc := cX9_forget) (nL := 3) (ret := (some .int)) (lv := [(0, .ref (ad_m 0)), (1, .int a1)]) (by decide) (Nat.le_of_ble_eq_true rfl) rfl (fun p e s m below meth c ls X I hl _ => ?_)
  obtain ⟨S0, hr, hlocks, hK, hZ, hA⟩ := id X
  obtain ⟨hx, hb, hml, hown, hts⟩ := id S0
  unfold PX9_forget at h
  refine lv_aload_n hx hb (kn_dec tX9_forget 0 rfl) rfl (lv_at hl 0 rfl) ?_
  refine lv_iload_n hx hb (kn_dec tX9_forget 1 rfl) rfl (lv_at hl 1 rfl) ?_
  refine kw_calli (wc := [(kModel, ad_m, _)]) (wr := []) I hA [0] [] rfl rfl (by decide) (by decide) (kn_runV (As := [.int _]) S0 hK hZ hA I ((ctX9_isSeeker h).met _) (kn_cwV 1 hts q6_119 q6_121 q0_60 q1_10 q6_122 rfl rfl (by decide +kernel) ⟨(Nat.le_of_ble_eq_true rfl), (Nat.le_of_ble_eq_true rfl)⟩) [0] rfl (by decide) 0 rfl rfl rfl rfl hl.1 rfl (Nat.le_of_ble_eq_true rfl) (kn_dec tX9_forget 2 rfl) ⟨(Nat.le_of_ble_eq_true rfl), (Nat.le_of_ble_eq_true rfl)⟩) (fun r1 u2 H locs h I => ?_)
  obtain ⟨hz_r1, h⟩ := h
  have I : kn_I D tc (kn_A _ s.heap.size) s.heap [(kModel, ad_m, _)] _ _ := I
  refine lv_if_eq (tgt := 18) hx hb (kn_dec tX9_forget 3 rfl) (by decide) (fun c3 => ?_) (fun c3 => ?_)
  · have h := h.1 c3
    refine lv_iconst (v := (-1)) hx hb (kn_dec tX9_forget 10 rfl) (by decide) ?_
    exact kw_iret hx hb hr hlocks I _ rfl h (kn_dec tX9_forget 11 rfl)
  · have h := h.2 c3
    refine lv_aload_n hx hb (kn_dec tX9_forget 4 rfl) rfl (lv_at hl 0 rfl) ?_
    refine kw_getl hx hb hts inX9 hown hK I 0 rfl rfl 11 (by decide) rfl (hts _ q4_211) (kn_dec tX9_forget 5 rfl) rfl ?_
    refine lv_iload_n hx hb (kn_dec tX9_forget 6 rfl) rfl (lv_at hl 1 rfl) ?_
    obtain ⟨hs4, h⟩ := h
    refine kw_iald hx hb hK I 0 rfl 11 4 (List.mem_of_getElem? (i := 10) rfl) hs4 (kn_dec tX9_forget 7 rfl) ?_
    refine lv_iconst (v := (-1)) hx hb (kn_dec tX9_forget 8 rfl) (by decide) ?_
    refine lv_icmp_ne (tgt := 20) hx hb (kn_dec tX9_forget 9 rfl) (by decide) (fun c5 => ?_) (fun c5 => ?_)
    · have h := h.1 c5
      refine lv_aload_n hx hb (kn_dec tX9_forget 12 rfl) rfl (lv_at hl 0 rfl) ?_
      refine kw_callv (wc := [(kModel, ad_m, _)]) (wr := []) I hA [0] [] rfl rfl (by decide) (by decide) (kn_runV (As := []) S0 hK hZ hA I ((ctX9_keepsAct h).met _) (kn_cwV 0 hts q6_151 q6_153 q0_65 q1_10 q6_154 rfl rfl (by decide +kernel) ⟨(Nat.le_of_ble_eq_true rfl), (Nat.le_of_ble_eq_true rfl)⟩) [0] rfl (by decide) 0 rfl rfl rfl rfl hl.1 rfl (Nat.le_of_ble_eq_true rfl) (kn_dec tX9_forget 13 rfl) ⟨(Nat.le_of_ble_eq_true rfl), (Nat.le_of_ble_eq_true rfl)⟩) (fun u7 H locs h I => ?_)
      have I : kn_I D tc (kn_A _ s.heap.size) s.heap [(kModel, ad_m, _)] _ _ := I
      refine lv_aload_n hx hb (kn_dec tX9_forget 14 rfl) rfl (lv_at hl 0 rfl) ?_
      refine kw_getl hx hb hts inX9 hown hK I 0 rfl rfl 11 (by decide) rfl (hts _ q4_211) (kn_dec tX9_forget 15 rfl) rfl ?_
      refine lv_iload_n hx hb (kn_dec tX9_forget 16 rfl) rfl (lv_at hl 1 rfl) ?_
      obtain ⟨hs8, h⟩ := h
      refine kw_iald hx hb hK I 0 rfl 11 4 (List.mem_of_getElem? (i := 10) rfl) hs8 (kn_dec tX9_forget 17 rfl) ?_
      refine lv_topi (fun x9 ex9 => ?_)
      have h := h x9 ex9
      refine lv_istore_n (lv' := [(2, .int _), (0, .ref (ad_m 0)), (1, .int _)]) hx hb (kn_dec tX9_forget 18 rfl) rfl hl (by decide) rfl (fun ls hl => ?_)
      refine lv_aload_n hx hb (kn_dec tX9_forget 19 rfl) rfl (lv_at hl 1 rfl) ?_
      refine kw_getl hx hb hts inX9 hown hK I 0 rfl rfl 11 (by decide) rfl (hts _ q4_211) (kn_dec tX9_forget 20 rfl) rfl ?_
      refine lv_iload_n hx hb (kn_dec tX9_forget 21 rfl) rfl (lv_at hl 2 rfl) ?_
      refine lv_iconst (v := (-1)) hx hb (kn_dec tX9_forget 22 rfl) (by decide) ?_
      obtain ⟨hs10, h⟩ := h
      refine kw_iast hx hb hK I 0 rfl 11 4 (List.mem_of_getElem? (i := 10) rfl) ukModel_11 hs10 (kn_dec tX9_forget 23 rfl) (fun v_m11 ev_m11 H locs I => ?_)
      have h := h v_m11 ev_m11
      have I : kn_I D tc (kn_A _ s.heap.size) s.heap [(kModel, ad_m, _)] _ _ := I
      refine lv_iload_n hx hb (kn_dec tX9_forget 24 rfl) rfl (lv_at hl 0 rfl) ?_
      exact kw_iret hx hb hr hlocks I _ rfl h (kn_dec tX9_forget 25 rfl)
    · have h := h.2 c5
      refine lv_iconst (v := (-1)) hx hb (kn_dec tX9_forget 10 rfl) (by decide) ?_
      exact kw_iret hx hb hr hlocks I _ rfl h (kn_dec tX9_forget 11 rfl)

/-! X9_carryRow -/
abbrev rmX9_carryRow : Room := { frames := 0, cells := 0, slots := 0, locals := 0 }
def PX9_carryRow_b42 (gk1 : Nat) (gn1 : Nat) (K2 : Int32 → OV → Prop) (post : OV → Prop) (y2 : Int32) (v_m : OV) : Prop := (∀ x1 : Int32, x1 = ((v_m.1 65) + ((1 : Int32))) → (∀ v_m2 : OV, v_m2 = si v_m 65 x1 → (∀ x3 : Int32, x3 = y2 + (1 : Int32) → K2 x3 v_m2)))
set_option maxRecDepth 100000 in
set_option maxHeartbeats 1000000 in
theorem wX9_carryRow_b42 {gk1 : Nat} {gn1 : Nat} {K2 : Int32 → OV → Prop} {post : OV → Prop} {ad_m : Nat → Nat} (X : kn_X p s m args meth c cX9_carryRow 3 none RX9 kn_all D tc Z (kn_A w0 s.heap.size)) (hm_gk1 : (gk1, 0, gn1) ∈ kModel.2) (hu_gk1 : ∀ b ∈ kModel.2, b.1 = gk1 → b = (gk1, 0, gn1))  (hK2 : ∀ (H : Heap) (locs : List Loc) (ls : Array Slot) (y2 : Int32) (v_m : OV), kn_I D tc (kn_A w0 s.heap.size) s.heap [(kModel, ad_m, v_m)] H locs → lv_has ls 3 [(0, .ref (ad_m 0)), (1, .ref (ad_m (gk1 + 1))), (2, .int y2)] → K2 y2 v_m → W p l e rmX9_carryRow s m args below meth c H locs 0 0 (kn_Qv D tc w0 (fun (u : OV) => [(kModel, ad_m, u)]) (fun (u : OV) => post u) below args s 0 0) (F0 m 2 ls [])) : ∀ (H : Heap) (locs : List Loc) (ls : Array Slot) (y2 : Int32) (v_m : OV), kn_I D tc (kn_A w0 s.heap.size) s.heap [(kModel, ad_m, v_m)] H locs → lv_has ls 3 [(0, .ref (ad_m 0)), (1, .ref (ad_m (gk1 + 1))), (2, .int y2)] → PX9_carryRow_b42 gk1 gn1 K2 post y2 v_m → W p l e rmX9_carryRow s m args below meth c H locs 0 0 (kn_Qv D tc w0 (fun (u : OV) => [(kModel, ad_m, u)]) (fun (u : OV) => post u) below args s 0 0) (F0 m 42 ls []) := by
  obtain ⟨S0, hr, hlocks, hK, hZ, hA⟩ := id X
  obtain ⟨hx, hb, hml, hown, hts⟩ := id S0
  intro H locs ls y2 v_m I hl h
  unfold PX9_carryRow_b42 at h
  refine lv_aload_n hx hb (kn_dec tX9_carryRow 26 rfl) rfl (lv_at hl 0 rfl) ?_
  refine lv_dup hx hb (kn_dec tX9_carryRow 27 rfl) rfl ?_
  refine kw_geti hx hb hts inX9 hown hK I 0 rfl rfl 65 (by decide) rfl (hts _ q5_25) (kn_dec tX9_carryRow 28 rfl) ?_
  refine lv_iconst (v := (1)) hx hb (kn_dec tX9_carryRow 29 rfl) (by decide) ?_
  refine lv_iadd hx hb (kn_dec tX9_carryRow 30 rfl) ?_
  refine lv_topi (fun x1 ex1 => ?_)
  have h := h x1 ex1
  refine kw_puti hx hb hts inX9 tyX9 tyX9_ok nmX9 hown hK I 0 rfl rfl 65 (by decide) rfl (hts _ q5_25) rfl rfl rfl (kn_dec tX9_carryRow 31 rfl) (fun v_m2 ev_m2 H locs I => ?_)
  have h := h v_m2 ev_m2
  have I : kn_I D tc (kn_A w0 s.heap.size) s.heap [(kModel, ad_m, _)] _ _ := I
  refine kw_iinc (lvf := fun y => [(2, .int y), (0, .ref (ad_m 0)), (1, .ref (ad_m (gk1 + 1)))]) (nv := (1)) hx hb (kn_dec tX9_carryRow 32 rfl) hl (k := 2) rfl (by decide) (by decide) (fun _ => rfl) (fun x3 ex3 ls hl => ?_)
  have h := h x3 ex3
  refine lv_goto (tgt := 2) hx hb (kn_dec tX9_carryRow 33 rfl) (by decide) ?_
  exact hK2 _ _ _ _ _  I (lv_sub hl [1, 2, 0] rfl) h
def PX9_carryRow_L2 (gk1 : Nat) (gn1 : Nat)  (post : OV → Prop) : Nat → Int32 → OV → Prop
  | 0, _, _ => False
  | n + 1, y2, v_m => (((Int32.ofNat gn1) ≤ y2 → post v_m) ∧ (¬ (Int32.ofNat gn1) ≤ y2 → (((v_m.1 66) = ((0 : Int32)) → (vp_in y2 gn1 ∧ (∀ x4 : Int32, x4 = (v_m.2.1 gk1 y2.toNatClampNeg) → (vp_in (v_m.1 65) 4750 ∧ (∀ v_m6 : OV, v_m6 = sa v_m 63 (upd (v_m.2.1 63) (v_m.1 65).toNatClampNeg x4) → PX9_carryRow_b42 gk1 gn1 (PX9_carryRow_L2 gk1 gn1 post n) post y2 v_m6))))) ∧ (¬ (v_m.1 66) = ((0 : Int32)) → (vp_in (v_m.1 65) 4750 ∧ (∀ x8 : Int32, x8 = (v_m.2.1 63 (v_m.1 65).toNatClampNeg) → (vp_in y2 gn1 ∧ (∀ v_m10 : OV, v_m10 = sa v_m gk1 (upd (v_m.2.1 gk1) y2.toNatClampNeg x8) → PX9_carryRow_b42 gk1 gn1 (PX9_carryRow_L2 gk1 gn1 post n) post y2 v_m10))))))))
set_option maxRecDepth 100000 in
set_option maxHeartbeats 1000000 in
theorem wX9_carryRow_L2 {gk1 : Nat} {gn1 : Nat}  {post : OV → Prop} {ad_m : Nat → Nat} (X : kn_X p s m args meth c cX9_carryRow 3 none RX9 kn_all D tc Z (kn_A w0 s.heap.size)) (hm_gk1 : (gk1, 0, gn1) ∈ kModel.2) (hu_gk1 : ∀ b ∈ kModel.2, b.1 = gk1 → b = (gk1, 0, gn1))   : ∀ n : Nat, ∀ (H : Heap) (locs : List Loc) (ls : Array Slot) (y2 : Int32) (v_m : OV), kn_I D tc (kn_A w0 s.heap.size) s.heap [(kModel, ad_m, v_m)] H locs → lv_has ls 3 [(0, .ref (ad_m 0)), (1, .ref (ad_m (gk1 + 1))), (2, .int y2)] → PX9_carryRow_L2 gk1 gn1 post n y2 v_m → W p l e rmX9_carryRow s m args below meth c H locs 0 0 (kn_Qv D tc w0 (fun (u : OV) => [(kModel, ad_m, u)]) (fun (u : OV) => post u) below args s 0 0) (F0 m 2 ls []) := by
  obtain ⟨S0, hr, hlocks, hK, hZ, hA⟩ := id X
  obtain ⟨hx, hb, hml, hown, hts⟩ := id S0
  intro n
  induction n with
  | zero =>
    intro H locs ls y2 v_m I hl h
    unfold PX9_carryRow_L2 at h
    exact h.elim
  | succ n ih =>
    intro H locs ls y2 v_m I hl h
    unfold PX9_carryRow_L2 at h
    refine lv_iload_n hx hb (kn_dec tX9_carryRow 2 rfl) rfl (lv_at hl 2 rfl) ?_
    refine lv_aload_n hx hb (kn_dec tX9_carryRow 3 rfl) rfl (lv_at hl 1 rfl) ?_
    refine kw_alen hx hb hK I 0 rfl gk1 0 gn1 hm_gk1 rfl rfl (kn_dec tX9_carryRow 4 rfl) ?_
    refine lv_icmp_ge (tgt := 58) hx hb (kn_dec tX9_carryRow 5 rfl) (by decide) (fun c1 => ?_) (fun c1 => ?_)
    · have h := h.1 c1
      exact kw_vret hx hb hr hlocks I _ rfl h (kn_dec tX9_carryRow 34 rfl)
    · have h := h.2 c1
      refine lv_aload_n hx hb (kn_dec tX9_carryRow 6 rfl) rfl (lv_at hl 0 rfl) ?_
      refine kw_geti hx hb hts inX9 hown hK I 0 rfl rfl 66 (by decide) rfl (hts _ q5_26) (kn_dec tX9_carryRow 7 rfl) ?_
      refine lv_if_eq (tgt := 30) hx hb (kn_dec tX9_carryRow 8 rfl) (by decide) (fun c2 => ?_) (fun c2 => ?_)
      · have h := h.1 c2
        refine lv_aload_n hx hb (kn_dec tX9_carryRow 18 rfl) rfl (lv_at hl 0 rfl) ?_
        refine kw_getl hx hb hts inX9 hown hK I 0 rfl rfl 63 (by decide) rfl (hts _ q5_23) (kn_dec tX9_carryRow 19 rfl) rfl ?_
        refine lv_aload_n hx hb (kn_dec tX9_carryRow 20 rfl) rfl (lv_at hl 0 rfl) ?_
        refine kw_geti hx hb hts inX9 hown hK I 0 rfl rfl 65 (by decide) rfl (hts _ q5_25) (kn_dec tX9_carryRow 21 rfl) ?_
        refine lv_aload_n hx hb (kn_dec tX9_carryRow 22 rfl) rfl (lv_at hl 1 rfl) ?_
        refine lv_iload_n hx hb (kn_dec tX9_carryRow 23 rfl) rfl (lv_at hl 2 rfl) ?_
        obtain ⟨hs3, h⟩ := h
        refine kw_iald hx hb hK I 0 rfl gk1 gn1 hm_gk1 hs3 (kn_dec tX9_carryRow 24 rfl) ?_
        refine lv_topi (fun x4 ex4 => ?_)
        have h := h x4 ex4
        obtain ⟨hs5, h⟩ := h
        refine kw_iast hx hb hK I 0 rfl 63 4750 (List.mem_of_getElem? (i := 46) rfl) ukModel_63 hs5 (kn_dec tX9_carryRow 25 rfl) (fun v_m6 ev_m6 H locs I => ?_)
        have h := h v_m6 ev_m6
        have I : kn_I D tc (kn_A w0 s.heap.size) s.heap [(kModel, ad_m, _)] _ _ := I
        exact wX9_carryRow_b42 X hm_gk1 hu_gk1 ih _ _ _ _ _  I (lv_sub hl [0, 1, 2] rfl) h
      · have h := h.2 c2
        refine lv_aload_n hx hb (kn_dec tX9_carryRow 9 rfl) rfl (lv_at hl 1 rfl) ?_
        refine lv_iload_n hx hb (kn_dec tX9_carryRow 10 rfl) rfl (lv_at hl 2 rfl) ?_
        refine lv_aload_n hx hb (kn_dec tX9_carryRow 11 rfl) rfl (lv_at hl 0 rfl) ?_
        refine kw_getl hx hb hts inX9 hown hK I 0 rfl rfl 63 (by decide) rfl (hts _ q5_23) (kn_dec tX9_carryRow 12 rfl) rfl ?_
        refine lv_aload_n hx hb (kn_dec tX9_carryRow 13 rfl) rfl (lv_at hl 0 rfl) ?_
        refine kw_geti hx hb hts inX9 hown hK I 0 rfl rfl 65 (by decide) rfl (hts _ q5_25) (kn_dec tX9_carryRow 14 rfl) ?_
        obtain ⟨hs7, h⟩ := h
        refine kw_iald hx hb hK I 0 rfl 63 4750 (List.mem_of_getElem? (i := 46) rfl) hs7 (kn_dec tX9_carryRow 15 rfl) ?_
        refine lv_topi (fun x8 ex8 => ?_)
        have h := h x8 ex8
        obtain ⟨hs9, h⟩ := h
        refine kw_iast hx hb hK I 0 rfl gk1 gn1 hm_gk1 hu_gk1 hs9 (kn_dec tX9_carryRow 16 rfl) (fun v_m10 ev_m10 H locs I => ?_)
        have h := h v_m10 ev_m10
        have I : kn_I D tc (kn_A w0 s.heap.size) s.heap [(kModel, ad_m, _)] _ _ := I
        refine lv_goto (tgt := 42) hx hb (kn_dec tX9_carryRow 17 rfl) (by decide) ?_
        exact wX9_carryRow_b42 X hm_gk1 hu_gk1 ih _ _ _ _ _  I (lv_sub hl [0, 1, 2] rfl) h
def PX9_carryRow  (v_m : OV) (gk1 : Nat) (gn1 : Nat) (post : OV → Prop) : Prop := (∃ n1 : Nat, PX9_carryRow_L2 gk1 gn1 post n1 ((0 : Int32)) v_m)
set_option maxRecDepth 100000 in
set_option maxHeartbeats 1000000 in
theorem ctX9_carryRow {l : Launch} {D : va_G} {tc : Nat → ClassId} {Z : (Nat → Nat) × (Nat → Nat)}  {ad_m : Nat → Nat} {v_m : OV} {gk1 : Nat} {gn1 : Nat} (hm_gk1 : (gk1, 0, gn1) ∈ kModel.2) (hu_gk1 : ∀ b ∈ kModel.2, b.1 = gk1 → b = (gk1, 0, gn1))   {post : OV → Prop} (h : PX9_carryRow  v_m gk1 gn1 post) : CTv l D tc Z yX9_carryRow (Cond.code yX9_carryRow cX9_carryRow 3 none :: kn_all) rmX9_carryRow 0 0 [.ref (ad_m 0), .ref (ad_m (gk1 + 1))] [(kModel, ad_m, v_m)] (fun (u : OV) => [(kModel, ad_m, u)]) (fun (u : OV) => post u) := by
  refine kn_ofv (cc := cX9_carryRow) (nL := 3) (ret := none) (lv := [(0, .ref (ad_m 0)), (1, .ref (ad_m (gk1 + 1)))]) (by decide) (Nat.le_of_ble_eq_true rfl) rfl (fun p e s m below meth c ls X I hl _ => ?_)
  obtain ⟨S0, hr, hlocks, hK, hZ, hA⟩ := id X
  obtain ⟨hx, hb, hml, hown, hts⟩ := id S0
  unfold PX9_carryRow at h
  refine lv_iconst (v := (0)) hx hb (kn_dec tX9_carryRow 0 rfl) (by decide) ?_
  refine lv_istore_n (lv' := [(2, .int _), (0, .ref (ad_m 0)), (1, .ref (ad_m (gk1 + 1)))]) hx hb (kn_dec tX9_carryRow 1 rfl) rfl hl (by decide) rfl (fun ls hl => ?_)
  obtain ⟨n1, h⟩ := h
  exact wX9_carryRow_L2 X hm_gk1 hu_gk1 n1 _ _ _ _ _  I (lv_sub hl [1, 2, 0] rfl) h

/-! X9_carriesAll -/
abbrev rmX9_carriesAll : Room := { frames := 1, cells := 0, slots := 0, locals := 22 }
def PX9_carriesAll  (v_m : OV) (a1 : Int32) (a2 : Int32) (post : OV → Prop) : Prop := (∀ x1 : Int32, x1 = (((950 : Int32)) * a1) → (∀ v_m2 : OV, v_m2 = si v_m 65 x1 → (∀ v_m3 : OV, v_m3 = si v_m2 66 a2 → (PX9_carryRow v_m3 1 12 (fun v_m4 => (PX9_carryRow v_m4 5 10 (fun v_m6 => (PX9_carryRow v_m6 6 6 (fun v_m8 => (PX9_carryRow v_m8 9 4 (fun v_m10 => (PX9_carryRow v_m10 11 4 (fun v_m12 => (PX9_carryRow v_m12 12 4 (fun v_m14 => (PX9_carryRow v_m14 13 4 (fun v_m16 => ((¬ a1 = ((4 : Int32)) → (∀ x19 : Int32, x19 = (v_m16.1 57) → (∀ v_m20 : OV, v_m20 = sa v_m16 56 (upd (v_m16.2.1 56) ((0 : Int32)).toNatClampNeg x19) → (PX9_carryRow v_m20 56 1 (fun v_m21 => (∀ x23 : Int32, x23 = (v_m21.2.1 56 ((0 : Int32)).toNatClampNeg) → (∀ v_m24 : OV, v_m24 = si v_m21 57 x23 → (PX9_carryRow v_m24 2 10 (fun v_m25 => (PX9_carryRow v_m25 3 10 (fun v_m27 => (PX9_carryRow v_m27 4 10 (fun v_m29 => (PX9_carryRow v_m29 7 4 (fun v_m31 => (PX9_carryRow v_m31 8 4 (fun v_m33 => (PX9_carryRow v_m33 10 4 (fun v_m35 => (PX9_carryRow v_m35 14 8 (fun v_m37 => (PX9_carryRow v_m37 15 10 (fun v_m39 => (PX9_carryRow v_m39 16 10 (fun v_m41 => (PX9_carryRow v_m41 17 6 (fun v_m43 => (PX9_carryRow v_m43 18 4 (fun v_m45 => (PX9_carryRow v_m45 19 2 (fun v_m47 => (PX9_carryRow v_m47 55 700 (fun v_m49 => post v_m49))))))))))))))))))))))))))))))))) ∧ (a1 = ((4 : Int32)) → post v_m16)))))))))))))))))))
set_option maxRecDepth 100000 in
set_option maxHeartbeats 1000000 in
theorem ctX9_carriesAll {l : Launch} {D : va_G} {tc : Nat → ClassId} {Z : (Nat → Nat) × (Nat → Nat)}  {ad_m : Nat → Nat} {v_m : OV} {a1 : Int32} {a2 : Int32}   (hz_a2 : a2 = 0 ∨ a2 = 1) {post : OV → Prop} (h : PX9_carriesAll  v_m a1 a2 post) : CTv l D tc Z yX9_carriesAll (Cond.code yX9_carriesAll cX9_carriesAll 3 none :: kn_all) rmX9_carriesAll 0 0 [.ref (ad_m 0), .int a1, .int a2] [(kModel, ad_m, v_m)] (fun (u : OV) => [(kModel, ad_m, u)]) (fun (u : OV) => post u) := by
  refine kn_ofv (cc := cX9_carriesAll) (nL := 3) (ret := none) (lv := [(0, .ref (ad_m 0)), (1, .int a1), (2, .int a2)]) (by decide) (Nat.le_of_ble_eq_true rfl) rfl (fun p e s m below meth c ls X I hl _ => ?_)
  obtain ⟨S0, hr, hlocks, hK, hZ, hA⟩ := id X
  obtain ⟨hx, hb, hml, hown, hts⟩ := id S0
  unfold PX9_carriesAll at h
  refine lv_aload_n hx hb (kn_dec tX9_carriesAll_t0 0 rfl) rfl (lv_at hl 0 rfl) ?_
  refine lv_sipush (v := (950)) hx hb (kn_dec tX9_carriesAll_t0 1 rfl) (by decide) ?_
  refine lv_iload_n hx hb (kn_dec tX9_carriesAll_t0 2 rfl) rfl (lv_at hl 1 rfl) ?_
  refine lv_imul hx hb (kn_dec tX9_carriesAll_t0 3 rfl) ?_
  refine lv_topi (fun x1 ex1 => ?_)
  have h := h x1 ex1
  refine kw_puti hx hb hts inX9 tyX9 tyX9_ok nmX9 hown hK I 0 rfl rfl 65 (by decide) rfl (hts _ q5_25) rfl rfl rfl (kn_dec tX9_carriesAll_t0 4 rfl) (fun v_m2 ev_m2 H locs I => ?_)
  have h := h v_m2 ev_m2
  have I : kn_I D tc (kn_A _ s.heap.size) s.heap [(kModel, ad_m, _)] _ _ := I
  refine lv_aload_n hx hb (kn_dec tX9_carriesAll_t0 5 rfl) rfl (lv_at hl 0 rfl) ?_
  refine lv_iload_n hx hb (kn_dec tX9_carriesAll_t0 6 rfl) rfl (lv_at hl 2 rfl) ?_
  refine kw_puti hx hb hts inX9 tyX9 tyX9_ok nmX9 hown hK I 0 rfl rfl 66 (by decide) rfl (hts _ q5_26) rfl (kn_nz hz_a2) (kn_fz hz_a2) (kn_dec tX9_carriesAll_t0 7 rfl) (fun v_m3 ev_m3 H locs I => ?_)
  have h := h v_m3 ev_m3
  have I : kn_I D tc (kn_A _ s.heap.size) s.heap [(kModel, ad_m, _)] _ _ := I
  refine lv_aload_n hx hb (kn_dec tX9_carriesAll_t0 8 rfl) rfl (lv_at hl 0 rfl) ?_
  refine lv_aload_n hx hb (kn_dec tX9_carriesAll_t0 9 rfl) rfl (lv_at hl 0 rfl) ?_
  refine kw_getl hx hb hts inX9 hown hK I 0 rfl rfl 1 (by decide) rfl (hts _ q4_201) (kn_dec tX9_carriesAll_t0 10 rfl) rfl ?_
  refine kw_callv (wc := [(kModel, ad_m, _)]) (wr := []) I hA [0] [] rfl rfl (by decide) (by decide) (kn_runV (As := [.ref (ad_m (1 + 1))]) S0 hK hZ hA I ((ctX9_carryRow (List.mem_of_getElem? (i := 0) rfl) ukModel_1 h).met _) (kn_cwV 1 hts q7_5 q7_7 q0_80 q1_10 q7_8 rfl rfl (by decide +kernel) ⟨(Nat.le_of_ble_eq_true rfl), (Nat.le_of_ble_eq_true rfl)⟩) [0] rfl (by decide) 0 rfl rfl rfl rfl hl.1 rfl (Nat.le_of_ble_eq_true rfl) (kn_dec tX9_carriesAll_t0 11 rfl) ⟨(Nat.le_of_ble_eq_true rfl), (Nat.le_of_ble_eq_true rfl)⟩) (fun u5 H locs h I => ?_)
  have I : kn_I D tc (kn_A _ s.heap.size) s.heap [(kModel, ad_m, _)] _ _ := I
  refine lv_aload_n hx hb (kn_dec tX9_carriesAll_t0 12 rfl) rfl (lv_at hl 0 rfl) ?_
  refine lv_aload_n hx hb (kn_dec tX9_carriesAll_t0 13 rfl) rfl (lv_at hl 0 rfl) ?_
  refine kw_getl hx hb hts inX9 hown hK I 0 rfl rfl 5 (by decide) rfl (hts _ q4_205) (kn_dec tX9_carriesAll_t0 14 rfl) rfl ?_
  refine kw_callv (wc := [(kModel, ad_m, _)]) (wr := []) I hA [0] [] rfl rfl (by decide) (by decide) (kn_runV (As := [.ref (ad_m (5 + 1))]) S0 hK hZ hA I ((ctX9_carryRow (List.mem_of_getElem? (i := 4) rfl) ukModel_5 h).met _) (kn_cwV 1 hts q7_5 q7_7 q0_80 q1_10 q7_8 rfl rfl (by decide +kernel) ⟨(Nat.le_of_ble_eq_true rfl), (Nat.le_of_ble_eq_true rfl)⟩) [0] rfl (by decide) 0 rfl rfl rfl rfl hl.1 rfl (Nat.le_of_ble_eq_true rfl) (kn_dec tX9_carriesAll_t0 15 rfl) ⟨(Nat.le_of_ble_eq_true rfl), (Nat.le_of_ble_eq_true rfl)⟩) (fun u7 H locs h I => ?_)
  have I : kn_I D tc (kn_A _ s.heap.size) s.heap [(kModel, ad_m, _)] _ _ := I
  refine lv_aload_n hx hb (kn_dec tX9_carriesAll_t0 16 rfl) rfl (lv_at hl 0 rfl) ?_
  refine lv_aload_n hx hb (kn_dec tX9_carriesAll_t0 17 rfl) rfl (lv_at hl 0 rfl) ?_
  refine kw_getl hx hb hts inX9 hown hK I 0 rfl rfl 6 (by decide) rfl (hts _ q4_206) (kn_dec tX9_carriesAll_t0 18 rfl) rfl ?_
  refine kw_callv (wc := [(kModel, ad_m, _)]) (wr := []) I hA [0] [] rfl rfl (by decide) (by decide) (kn_runV (As := [.ref (ad_m (6 + 1))]) S0 hK hZ hA I ((ctX9_carryRow (List.mem_of_getElem? (i := 5) rfl) ukModel_6 h).met _) (kn_cwV 1 hts q7_5 q7_7 q0_80 q1_10 q7_8 rfl rfl (by decide +kernel) ⟨(Nat.le_of_ble_eq_true rfl), (Nat.le_of_ble_eq_true rfl)⟩) [0] rfl (by decide) 0 rfl rfl rfl rfl hl.1 rfl (Nat.le_of_ble_eq_true rfl) (kn_dec tX9_carriesAll_t0 19 rfl) ⟨(Nat.le_of_ble_eq_true rfl), (Nat.le_of_ble_eq_true rfl)⟩) (fun u9 H locs h I => ?_)
  have I : kn_I D tc (kn_A _ s.heap.size) s.heap [(kModel, ad_m, _)] _ _ := I
  refine lv_aload_n hx hb (kn_dec tX9_carriesAll_t0 20 rfl) rfl (lv_at hl 0 rfl) ?_
  refine lv_aload_n hx hb (kn_dec tX9_carriesAll_t0 21 rfl) rfl (lv_at hl 0 rfl) ?_
  refine kw_getl hx hb hts inX9 hown hK I 0 rfl rfl 9 (by decide) rfl (hts _ q4_209) (kn_dec tX9_carriesAll_t0 22 rfl) rfl ?_
  refine kw_callv (wc := [(kModel, ad_m, _)]) (wr := []) I hA [0] [] rfl rfl (by decide) (by decide) (kn_runV (As := [.ref (ad_m (9 + 1))]) S0 hK hZ hA I ((ctX9_carryRow (List.mem_of_getElem? (i := 8) rfl) ukModel_9 h).met _) (kn_cwV 1 hts q7_5 q7_7 q0_80 q1_10 q7_8 rfl rfl (by decide +kernel) ⟨(Nat.le_of_ble_eq_true rfl), (Nat.le_of_ble_eq_true rfl)⟩) [0] rfl (by decide) 0 rfl rfl rfl rfl hl.1 rfl (Nat.le_of_ble_eq_true rfl) (kn_dec tX9_carriesAll_t0 23 rfl) ⟨(Nat.le_of_ble_eq_true rfl), (Nat.le_of_ble_eq_true rfl)⟩) (fun u11 H locs h I => ?_)
  have I : kn_I D tc (kn_A _ s.heap.size) s.heap [(kModel, ad_m, _)] _ _ := I
  refine lv_aload_n hx hb (kn_dec tX9_carriesAll_t0 24 rfl) rfl (lv_at hl 0 rfl) ?_
  refine lv_aload_n hx hb (kn_dec tX9_carriesAll_t0 25 rfl) rfl (lv_at hl 0 rfl) ?_
  refine kw_getl hx hb hts inX9 hown hK I 0 rfl rfl 11 (by decide) rfl (hts _ q4_211) (kn_dec tX9_carriesAll_t0 26 rfl) rfl ?_
  refine kw_callv (wc := [(kModel, ad_m, _)]) (wr := []) I hA [0] [] rfl rfl (by decide) (by decide) (kn_runV (As := [.ref (ad_m (11 + 1))]) S0 hK hZ hA I ((ctX9_carryRow (List.mem_of_getElem? (i := 10) rfl) ukModel_11 h).met _) (kn_cwV 1 hts q7_5 q7_7 q0_80 q1_10 q7_8 rfl rfl (by decide +kernel) ⟨(Nat.le_of_ble_eq_true rfl), (Nat.le_of_ble_eq_true rfl)⟩) [0] rfl (by decide) 0 rfl rfl rfl rfl hl.1 rfl (Nat.le_of_ble_eq_true rfl) (kn_dec tX9_carriesAll_t0 27 rfl) ⟨(Nat.le_of_ble_eq_true rfl), (Nat.le_of_ble_eq_true rfl)⟩) (fun u13 H locs h I => ?_)
  have I : kn_I D tc (kn_A _ s.heap.size) s.heap [(kModel, ad_m, _)] _ _ := I
  refine lv_aload_n hx hb (kn_dec tX9_carriesAll_t0 28 rfl) rfl (lv_at hl 0 rfl) ?_
  refine lv_aload_n hx hb (kn_dec tX9_carriesAll_t0 29 rfl) rfl (lv_at hl 0 rfl) ?_
  refine kw_getl hx hb hts inX9 hown hK I 0 rfl rfl 12 (by decide) rfl (hts _ q4_212) (kn_dec tX9_carriesAll_t0 30 rfl) rfl ?_
  refine kw_callv (wc := [(kModel, ad_m, _)]) (wr := []) I hA [0] [] rfl rfl (by decide) (by decide) (kn_runV (As := [.ref (ad_m (12 + 1))]) S0 hK hZ hA I ((ctX9_carryRow (List.mem_of_getElem? (i := 11) rfl) ukModel_12 h).met _) (kn_cwV 1 hts q7_5 q7_7 q0_80 q1_10 q7_8 rfl rfl (by decide +kernel) ⟨(Nat.le_of_ble_eq_true rfl), (Nat.le_of_ble_eq_true rfl)⟩) [0] rfl (by decide) 0 rfl rfl rfl rfl hl.1 rfl (Nat.le_of_ble_eq_true rfl) (kn_dec tX9_carriesAll_t0 31 rfl) ⟨(Nat.le_of_ble_eq_true rfl), (Nat.le_of_ble_eq_true rfl)⟩) (fun u15 H locs h I => ?_)
  have I : kn_I D tc (kn_A _ s.heap.size) s.heap [(kModel, ad_m, _)] _ _ := I
  refine lv_aload_n hx hb (kn_dec tX9_carriesAll_t0 32 rfl) rfl (lv_at hl 0 rfl) ?_
  refine lv_aload_n hx hb (kn_dec tX9_carriesAll_t0 33 rfl) rfl (lv_at hl 0 rfl) ?_
  refine kw_getl hx hb hts inX9 hown hK I 0 rfl rfl 13 (by decide) rfl (hts _ q4_213) (kn_dec tX9_carriesAll_t0 34 rfl) rfl ?_
  refine kw_callv (wc := [(kModel, ad_m, _)]) (wr := []) I hA [0] [] rfl rfl (by decide) (by decide) (kn_runV (As := [.ref (ad_m (13 + 1))]) S0 hK hZ hA I ((ctX9_carryRow (List.mem_of_getElem? (i := 12) rfl) ukModel_13 h).met _) (kn_cwV 1 hts q7_5 q7_7 q0_80 q1_10 q7_8 rfl rfl (by decide +kernel) ⟨(Nat.le_of_ble_eq_true rfl), (Nat.le_of_ble_eq_true rfl)⟩) [0] rfl (by decide) 0 rfl rfl rfl rfl hl.1 rfl (Nat.le_of_ble_eq_true rfl) (kn_dec tX9_carriesAll_t0 35 rfl) ⟨(Nat.le_of_ble_eq_true rfl), (Nat.le_of_ble_eq_true rfl)⟩) (fun u17 H locs h I => ?_)
  have I : kn_I D tc (kn_A _ s.heap.size) s.heap [(kModel, ad_m, _)] _ _ := I
  refine lv_iload_n hx hb (kn_dec tX9_carriesAll_t0 36 rfl) rfl (lv_at hl 1 rfl) ?_
  refine lv_iconst (v := (4)) hx hb (kn_dec tX9_carriesAll_t0 37 rfl) (by decide) ?_
  refine lv_icmp_ne (tgt := 76) hx hb (kn_dec tX9_carriesAll_t0 38 rfl) (by decide) (fun c18 => ?_) (fun c18 => ?_)
  · have h := h.1 c18
    refine lv_aload_n hx hb (kn_dec tX9_carriesAll_t0 40 rfl) rfl (lv_at hl 0 rfl) ?_
    refine kw_getl hx hb hts inX9 hown hK I 0 rfl rfl 56 (by decide) rfl (hts _ q5_16) (kn_dec tX9_carriesAll_t0 41 rfl) rfl ?_
    refine lv_iconst (v := (0)) hx hb (kn_dec tX9_carriesAll_t0 42 rfl) (by decide) ?_
    refine lv_aload_n hx hb (kn_dec tX9_carriesAll_t0 43 rfl) rfl (lv_at hl 0 rfl) ?_
    refine kw_geti hx hb hts inX9 hown hK I 0 rfl rfl 57 (by decide) rfl (hts _ q5_17) (kn_dec tX9_carriesAll_t0 44 rfl) ?_
    refine lv_topi (fun x19 ex19 => ?_)
    have h := h x19 ex19
    refine kw_iast hx hb hK I 0 rfl 56 1 (List.mem_of_getElem? (i := 42) rfl) ukModel_56 (by unfold vp_in; decide) (kn_dec tX9_carriesAll_t0 45 rfl) (fun v_m20 ev_m20 H locs I => ?_)
    have h := h v_m20 ev_m20
    have I : kn_I D tc (kn_A _ s.heap.size) s.heap [(kModel, ad_m, _)] _ _ := I
    refine lv_aload_n hx hb (kn_dec tX9_carriesAll_t0 46 rfl) rfl (lv_at hl 0 rfl) ?_
    refine lv_aload_n hx hb (kn_dec tX9_carriesAll_t0 47 rfl) rfl (lv_at hl 0 rfl) ?_
    refine kw_getl hx hb hts inX9 hown hK I 0 rfl rfl 56 (by decide) rfl (hts _ q5_16) (kn_dec tX9_carriesAll_t0 48 rfl) rfl ?_
    refine kw_callv (wc := [(kModel, ad_m, _)]) (wr := []) I hA [0] [] rfl rfl (by decide) (by decide) (kn_runV (As := [.ref (ad_m (56 + 1))]) S0 hK hZ hA I ((ctX9_carryRow (List.mem_of_getElem? (i := 42) rfl) ukModel_56 h).met _) (kn_cwV 1 hts q7_5 q7_7 q0_80 q1_10 q7_8 rfl rfl (by decide +kernel) ⟨(Nat.le_of_ble_eq_true rfl), (Nat.le_of_ble_eq_true rfl)⟩) [0] rfl (by decide) 0 rfl rfl rfl rfl hl.1 rfl (Nat.le_of_ble_eq_true rfl) (kn_dec tX9_carriesAll_t0 49 rfl) ⟨(Nat.le_of_ble_eq_true rfl), (Nat.le_of_ble_eq_true rfl)⟩) (fun u22 H locs h I => ?_)
    have I : kn_I D tc (kn_A _ s.heap.size) s.heap [(kModel, ad_m, _)] _ _ := I
    refine lv_aload_n hx hb (kn_dec tX9_carriesAll_t0 50 rfl) rfl (lv_at hl 0 rfl) ?_
    refine lv_aload_n hx hb (kn_dec tX9_carriesAll_t0 51 rfl) rfl (lv_at hl 0 rfl) ?_
    refine kw_getl hx hb hts inX9 hown hK I 0 rfl rfl 56 (by decide) rfl (hts _ q5_16) (kn_dec tX9_carriesAll_t0 52 rfl) rfl ?_
    refine lv_iconst (v := (0)) hx hb (kn_dec tX9_carriesAll_t0 53 rfl) (by decide) ?_
    refine kw_iald hx hb hK I 0 rfl 56 1 (List.mem_of_getElem? (i := 42) rfl) (by unfold vp_in; decide) (kn_dec tX9_carriesAll_t0 54 rfl) ?_
    refine lv_topi (fun x23 ex23 => ?_)
    have h := h x23 ex23
    refine kw_puti hx hb hts inX9 tyX9 tyX9_ok nmX9 hown hK I 0 rfl rfl 57 (by decide) rfl (hts _ q5_17) rfl rfl rfl (kn_dec tX9_carriesAll_t0 55 rfl) (fun v_m24 ev_m24 H locs I => ?_)
    have h := h v_m24 ev_m24
    have I : kn_I D tc (kn_A _ s.heap.size) s.heap [(kModel, ad_m, _)] _ _ := I
    refine lv_aload_n hx hb (kn_dec tX9_carriesAll_t0 56 rfl) rfl (lv_at hl 0 rfl) ?_
    refine lv_aload_n hx hb (kn_dec tX9_carriesAll_t0 57 rfl) rfl (lv_at hl 0 rfl) ?_
    refine kw_getl hx hb hts inX9 hown hK I 0 rfl rfl 2 (by decide) rfl (hts _ q4_202) (kn_dec tX9_carriesAll_t0 58 rfl) rfl ?_
    refine kw_callv (wc := [(kModel, ad_m, _)]) (wr := []) I hA [0] [] rfl rfl (by decide) (by decide) (kn_runV (As := [.ref (ad_m (2 + 1))]) S0 hK hZ hA I ((ctX9_carryRow (List.mem_of_getElem? (i := 1) rfl) ukModel_2 h).met _) (kn_cwV 1 hts q7_5 q7_7 q0_80 q1_10 q7_8 rfl rfl (by decide +kernel) ⟨(Nat.le_of_ble_eq_true rfl), (Nat.le_of_ble_eq_true rfl)⟩) [0] rfl (by decide) 0 rfl rfl rfl rfl hl.1 rfl (Nat.le_of_ble_eq_true rfl) (kn_dec tX9_carriesAll_t0 59 rfl) ⟨(Nat.le_of_ble_eq_true rfl), (Nat.le_of_ble_eq_true rfl)⟩) (fun u26 H locs h I => ?_)
    have I : kn_I D tc (kn_A _ s.heap.size) s.heap [(kModel, ad_m, _)] _ _ := I
    refine lv_aload_n hx hb (kn_dec tX9_carriesAll_t1 0 rfl) rfl (lv_at hl 0 rfl) ?_
    refine lv_aload_n hx hb (kn_dec tX9_carriesAll_t1 1 rfl) rfl (lv_at hl 0 rfl) ?_
    refine kw_getl hx hb hts inX9 hown hK I 0 rfl rfl 3 (by decide) rfl (hts _ q4_203) (kn_dec tX9_carriesAll_t1 2 rfl) rfl ?_
    refine kw_callv (wc := [(kModel, ad_m, _)]) (wr := []) I hA [0] [] rfl rfl (by decide) (by decide) (kn_runV (As := [.ref (ad_m (3 + 1))]) S0 hK hZ hA I ((ctX9_carryRow (List.mem_of_getElem? (i := 2) rfl) ukModel_3 h).met _) (kn_cwV 1 hts q7_5 q7_7 q0_80 q1_10 q7_8 rfl rfl (by decide +kernel) ⟨(Nat.le_of_ble_eq_true rfl), (Nat.le_of_ble_eq_true rfl)⟩) [0] rfl (by decide) 0 rfl rfl rfl rfl hl.1 rfl (Nat.le_of_ble_eq_true rfl) (kn_dec tX9_carriesAll_t1 3 rfl) ⟨(Nat.le_of_ble_eq_true rfl), (Nat.le_of_ble_eq_true rfl)⟩) (fun u28 H locs h I => ?_)
    have I : kn_I D tc (kn_A _ s.heap.size) s.heap [(kModel, ad_m, _)] _ _ := I
    refine lv_aload_n hx hb (kn_dec tX9_carriesAll_t1 4 rfl) rfl (lv_at hl 0 rfl) ?_
    refine lv_aload_n hx hb (kn_dec tX9_carriesAll_t1 5 rfl) rfl (lv_at hl 0 rfl) ?_
    refine kw_getl hx hb hts inX9 hown hK I 0 rfl rfl 4 (by decide) rfl (hts _ q4_204) (kn_dec tX9_carriesAll_t1 6 rfl) rfl ?_
    refine kw_callv (wc := [(kModel, ad_m, _)]) (wr := []) I hA [0] [] rfl rfl (by decide) (by decide) (kn_runV (As := [.ref (ad_m (4 + 1))]) S0 hK hZ hA I ((ctX9_carryRow (List.mem_of_getElem? (i := 3) rfl) ukModel_4 h).met _) (kn_cwV 1 hts q7_5 q7_7 q0_80 q1_10 q7_8 rfl rfl (by decide +kernel) ⟨(Nat.le_of_ble_eq_true rfl), (Nat.le_of_ble_eq_true rfl)⟩) [0] rfl (by decide) 0 rfl rfl rfl rfl hl.1 rfl (Nat.le_of_ble_eq_true rfl) (kn_dec tX9_carriesAll_t1 7 rfl) ⟨(Nat.le_of_ble_eq_true rfl), (Nat.le_of_ble_eq_true rfl)⟩) (fun u30 H locs h I => ?_)
    have I : kn_I D tc (kn_A _ s.heap.size) s.heap [(kModel, ad_m, _)] _ _ := I
    refine lv_aload_n hx hb (kn_dec tX9_carriesAll_t1 8 rfl) rfl (lv_at hl 0 rfl) ?_
    refine lv_aload_n hx hb (kn_dec tX9_carriesAll_t1 9 rfl) rfl (lv_at hl 0 rfl) ?_
    refine kw_getl hx hb hts inX9 hown hK I 0 rfl rfl 7 (by decide) rfl (hts _ q4_207) (kn_dec tX9_carriesAll_t1 10 rfl) rfl ?_
    refine kw_callv (wc := [(kModel, ad_m, _)]) (wr := []) I hA [0] [] rfl rfl (by decide) (by decide) (kn_runV (As := [.ref (ad_m (7 + 1))]) S0 hK hZ hA I ((ctX9_carryRow (List.mem_of_getElem? (i := 6) rfl) ukModel_7 h).met _) (kn_cwV 1 hts q7_5 q7_7 q0_80 q1_10 q7_8 rfl rfl (by decide +kernel) ⟨(Nat.le_of_ble_eq_true rfl), (Nat.le_of_ble_eq_true rfl)⟩) [0] rfl (by decide) 0 rfl rfl rfl rfl hl.1 rfl (Nat.le_of_ble_eq_true rfl) (kn_dec tX9_carriesAll_t1 11 rfl) ⟨(Nat.le_of_ble_eq_true rfl), (Nat.le_of_ble_eq_true rfl)⟩) (fun u32 H locs h I => ?_)
    have I : kn_I D tc (kn_A _ s.heap.size) s.heap [(kModel, ad_m, _)] _ _ := I
    refine lv_aload_n hx hb (kn_dec tX9_carriesAll_t1 12 rfl) rfl (lv_at hl 0 rfl) ?_
    refine lv_aload_n hx hb (kn_dec tX9_carriesAll_t1 13 rfl) rfl (lv_at hl 0 rfl) ?_
    refine kw_getl hx hb hts inX9 hown hK I 0 rfl rfl 8 (by decide) rfl (hts _ q4_208) (kn_dec tX9_carriesAll_t1 14 rfl) rfl ?_
    refine kw_callv (wc := [(kModel, ad_m, _)]) (wr := []) I hA [0] [] rfl rfl (by decide) (by decide) (kn_runV (As := [.ref (ad_m (8 + 1))]) S0 hK hZ hA I ((ctX9_carryRow (List.mem_of_getElem? (i := 7) rfl) ukModel_8 h).met _) (kn_cwV 1 hts q7_5 q7_7 q0_80 q1_10 q7_8 rfl rfl (by decide +kernel) ⟨(Nat.le_of_ble_eq_true rfl), (Nat.le_of_ble_eq_true rfl)⟩) [0] rfl (by decide) 0 rfl rfl rfl rfl hl.1 rfl (Nat.le_of_ble_eq_true rfl) (kn_dec tX9_carriesAll_t1 15 rfl) ⟨(Nat.le_of_ble_eq_true rfl), (Nat.le_of_ble_eq_true rfl)⟩) (fun u34 H locs h I => ?_)
    have I : kn_I D tc (kn_A _ s.heap.size) s.heap [(kModel, ad_m, _)] _ _ := I
    refine lv_aload_n hx hb (kn_dec tX9_carriesAll_t1 16 rfl) rfl (lv_at hl 0 rfl) ?_
    refine lv_aload_n hx hb (kn_dec tX9_carriesAll_t1 17 rfl) rfl (lv_at hl 0 rfl) ?_
    refine kw_getl hx hb hts inX9 hown hK I 0 rfl rfl 10 (by decide) rfl (hts _ q4_210) (kn_dec tX9_carriesAll_t1 18 rfl) rfl ?_
    refine kw_callv (wc := [(kModel, ad_m, _)]) (wr := []) I hA [0] [] rfl rfl (by decide) (by decide) (kn_runV (As := [.ref (ad_m (10 + 1))]) S0 hK hZ hA I ((ctX9_carryRow (List.mem_of_getElem? (i := 9) rfl) ukModel_10 h).met _) (kn_cwV 1 hts q7_5 q7_7 q0_80 q1_10 q7_8 rfl rfl (by decide +kernel) ⟨(Nat.le_of_ble_eq_true rfl), (Nat.le_of_ble_eq_true rfl)⟩) [0] rfl (by decide) 0 rfl rfl rfl rfl hl.1 rfl (Nat.le_of_ble_eq_true rfl) (kn_dec tX9_carriesAll_t1 19 rfl) ⟨(Nat.le_of_ble_eq_true rfl), (Nat.le_of_ble_eq_true rfl)⟩) (fun u36 H locs h I => ?_)
    have I : kn_I D tc (kn_A _ s.heap.size) s.heap [(kModel, ad_m, _)] _ _ := I
    refine lv_aload_n hx hb (kn_dec tX9_carriesAll_t1 20 rfl) rfl (lv_at hl 0 rfl) ?_
    refine lv_aload_n hx hb (kn_dec tX9_carriesAll_t1 21 rfl) rfl (lv_at hl 0 rfl) ?_
    refine kw_getl hx hb hts inX9 hown hK I 0 rfl rfl 14 (by decide) rfl (hts _ q4_214) (kn_dec tX9_carriesAll_t1 22 rfl) rfl ?_
    refine kw_callv (wc := [(kModel, ad_m, _)]) (wr := []) I hA [0] [] rfl rfl (by decide) (by decide) (kn_runV (As := [.ref (ad_m (14 + 1))]) S0 hK hZ hA I ((ctX9_carryRow (List.mem_of_getElem? (i := 13) rfl) ukModel_14 h).met _) (kn_cwV 1 hts q7_5 q7_7 q0_80 q1_10 q7_8 rfl rfl (by decide +kernel) ⟨(Nat.le_of_ble_eq_true rfl), (Nat.le_of_ble_eq_true rfl)⟩) [0] rfl (by decide) 0 rfl rfl rfl rfl hl.1 rfl (Nat.le_of_ble_eq_true rfl) (kn_dec tX9_carriesAll_t1 23 rfl) ⟨(Nat.le_of_ble_eq_true rfl), (Nat.le_of_ble_eq_true rfl)⟩) (fun u38 H locs h I => ?_)
    have I : kn_I D tc (kn_A _ s.heap.size) s.heap [(kModel, ad_m, _)] _ _ := I
    refine lv_aload_n hx hb (kn_dec tX9_carriesAll_t1 24 rfl) rfl (lv_at hl 0 rfl) ?_
    refine lv_aload_n hx hb (kn_dec tX9_carriesAll_t1 25 rfl) rfl (lv_at hl 0 rfl) ?_
    refine kw_getl hx hb hts inX9 hown hK I 0 rfl rfl 15 (by decide) rfl (hts _ q4_215) (kn_dec tX9_carriesAll_t1 26 rfl) rfl ?_
    refine kw_callv (wc := [(kModel, ad_m, _)]) (wr := []) I hA [0] [] rfl rfl (by decide) (by decide) (kn_runV (As := [.ref (ad_m (15 + 1))]) S0 hK hZ hA I ((ctX9_carryRow (List.mem_of_getElem? (i := 14) rfl) ukModel_15 h).met _) (kn_cwV 1 hts q7_5 q7_7 q0_80 q1_10 q7_8 rfl rfl (by decide +kernel) ⟨(Nat.le_of_ble_eq_true rfl), (Nat.le_of_ble_eq_true rfl)⟩) [0] rfl (by decide) 0 rfl rfl rfl rfl hl.1 rfl (Nat.le_of_ble_eq_true rfl) (kn_dec tX9_carriesAll_t1 27 rfl) ⟨(Nat.le_of_ble_eq_true rfl), (Nat.le_of_ble_eq_true rfl)⟩) (fun u40 H locs h I => ?_)
    have I : kn_I D tc (kn_A _ s.heap.size) s.heap [(kModel, ad_m, _)] _ _ := I
    refine lv_aload_n hx hb (kn_dec tX9_carriesAll_t1 28 rfl) rfl (lv_at hl 0 rfl) ?_
    refine lv_aload_n hx hb (kn_dec tX9_carriesAll_t1 29 rfl) rfl (lv_at hl 0 rfl) ?_
    refine kw_getl hx hb hts inX9 hown hK I 0 rfl rfl 16 (by decide) rfl (hts _ q4_216) (kn_dec tX9_carriesAll_t1 30 rfl) rfl ?_
    refine kw_callv (wc := [(kModel, ad_m, _)]) (wr := []) I hA [0] [] rfl rfl (by decide) (by decide) (kn_runV (As := [.ref (ad_m (16 + 1))]) S0 hK hZ hA I ((ctX9_carryRow (List.mem_of_getElem? (i := 15) rfl) ukModel_16 h).met _) (kn_cwV 1 hts q7_5 q7_7 q0_80 q1_10 q7_8 rfl rfl (by decide +kernel) ⟨(Nat.le_of_ble_eq_true rfl), (Nat.le_of_ble_eq_true rfl)⟩) [0] rfl (by decide) 0 rfl rfl rfl rfl hl.1 rfl (Nat.le_of_ble_eq_true rfl) (kn_dec tX9_carriesAll_t1 31 rfl) ⟨(Nat.le_of_ble_eq_true rfl), (Nat.le_of_ble_eq_true rfl)⟩) (fun u42 H locs h I => ?_)
    have I : kn_I D tc (kn_A _ s.heap.size) s.heap [(kModel, ad_m, _)] _ _ := I
    refine lv_aload_n hx hb (kn_dec tX9_carriesAll_t1 32 rfl) rfl (lv_at hl 0 rfl) ?_
    refine lv_aload_n hx hb (kn_dec tX9_carriesAll_t1 33 rfl) rfl (lv_at hl 0 rfl) ?_
    refine kw_getl hx hb hts inX9 hown hK I 0 rfl rfl 17 (by decide) rfl (hts _ q4_217) (kn_dec tX9_carriesAll_t1 34 rfl) rfl ?_
    refine kw_callv (wc := [(kModel, ad_m, _)]) (wr := []) I hA [0] [] rfl rfl (by decide) (by decide) (kn_runV (As := [.ref (ad_m (17 + 1))]) S0 hK hZ hA I ((ctX9_carryRow (List.mem_of_getElem? (i := 16) rfl) ukModel_17 h).met _) (kn_cwV 1 hts q7_5 q7_7 q0_80 q1_10 q7_8 rfl rfl (by decide +kernel) ⟨(Nat.le_of_ble_eq_true rfl), (Nat.le_of_ble_eq_true rfl)⟩) [0] rfl (by decide) 0 rfl rfl rfl rfl hl.1 rfl (Nat.le_of_ble_eq_true rfl) (kn_dec tX9_carriesAll_t1 35 rfl) ⟨(Nat.le_of_ble_eq_true rfl), (Nat.le_of_ble_eq_true rfl)⟩) (fun u44 H locs h I => ?_)
    have I : kn_I D tc (kn_A _ s.heap.size) s.heap [(kModel, ad_m, _)] _ _ := I
    refine lv_aload_n hx hb (kn_dec tX9_carriesAll_t1 36 rfl) rfl (lv_at hl 0 rfl) ?_
    refine lv_aload_n hx hb (kn_dec tX9_carriesAll_t1 37 rfl) rfl (lv_at hl 0 rfl) ?_
    refine kw_getl hx hb hts inX9 hown hK I 0 rfl rfl 18 (by decide) rfl (hts _ q4_218) (kn_dec tX9_carriesAll_t1 38 rfl) rfl ?_
    refine kw_callv (wc := [(kModel, ad_m, _)]) (wr := []) I hA [0] [] rfl rfl (by decide) (by decide) (kn_runV (As := [.ref (ad_m (18 + 1))]) S0 hK hZ hA I ((ctX9_carryRow (List.mem_of_getElem? (i := 17) rfl) ukModel_18 h).met _) (kn_cwV 1 hts q7_5 q7_7 q0_80 q1_10 q7_8 rfl rfl (by decide +kernel) ⟨(Nat.le_of_ble_eq_true rfl), (Nat.le_of_ble_eq_true rfl)⟩) [0] rfl (by decide) 0 rfl rfl rfl rfl hl.1 rfl (Nat.le_of_ble_eq_true rfl) (kn_dec tX9_carriesAll_t1 39 rfl) ⟨(Nat.le_of_ble_eq_true rfl), (Nat.le_of_ble_eq_true rfl)⟩) (fun u46 H locs h I => ?_)
    have I : kn_I D tc (kn_A _ s.heap.size) s.heap [(kModel, ad_m, _)] _ _ := I
    refine lv_aload_n hx hb (kn_dec tX9_carriesAll_t1 40 rfl) rfl (lv_at hl 0 rfl) ?_
    refine lv_aload_n hx hb (kn_dec tX9_carriesAll_t1 41 rfl) rfl (lv_at hl 0 rfl) ?_
    refine kw_getl hx hb hts inX9 hown hK I 0 rfl rfl 19 (by decide) rfl (hts _ q4_219) (kn_dec tX9_carriesAll_t1 42 rfl) rfl ?_
    refine kw_callv (wc := [(kModel, ad_m, _)]) (wr := []) I hA [0] [] rfl rfl (by decide) (by decide) (kn_runV (As := [.ref (ad_m (19 + 1))]) S0 hK hZ hA I ((ctX9_carryRow (List.mem_of_getElem? (i := 18) rfl) ukModel_19 h).met _) (kn_cwV 1 hts q7_5 q7_7 q0_80 q1_10 q7_8 rfl rfl (by decide +kernel) ⟨(Nat.le_of_ble_eq_true rfl), (Nat.le_of_ble_eq_true rfl)⟩) [0] rfl (by decide) 0 rfl rfl rfl rfl hl.1 rfl (Nat.le_of_ble_eq_true rfl) (kn_dec tX9_carriesAll_t1 43 rfl) ⟨(Nat.le_of_ble_eq_true rfl), (Nat.le_of_ble_eq_true rfl)⟩) (fun u48 H locs h I => ?_)
    have I : kn_I D tc (kn_A _ s.heap.size) s.heap [(kModel, ad_m, _)] _ _ := I
    refine lv_aload_n hx hb (kn_dec tX9_carriesAll_t1 44 rfl) rfl (lv_at hl 0 rfl) ?_
    refine lv_aload_n hx hb (kn_dec tX9_carriesAll_t1 45 rfl) rfl (lv_at hl 0 rfl) ?_
    refine kw_getl hx hb hts inX9 hown hK I 0 rfl rfl 55 (by decide) rfl (hts _ q5_15) (kn_dec tX9_carriesAll_t1 46 rfl) rfl ?_
    refine kw_callv (wc := [(kModel, ad_m, _)]) (wr := []) I hA [0] [] rfl rfl (by decide) (by decide) (kn_runV (As := [.ref (ad_m (55 + 1))]) S0 hK hZ hA I ((ctX9_carryRow (List.mem_of_getElem? (i := 41) rfl) ukModel_55 h).met _) (kn_cwV 1 hts q7_5 q7_7 q0_80 q1_10 q7_8 rfl rfl (by decide +kernel) ⟨(Nat.le_of_ble_eq_true rfl), (Nat.le_of_ble_eq_true rfl)⟩) [0] rfl (by decide) 0 rfl rfl rfl rfl hl.1 rfl (Nat.le_of_ble_eq_true rfl) (kn_dec tX9_carriesAll_t1 47 rfl) ⟨(Nat.le_of_ble_eq_true rfl), (Nat.le_of_ble_eq_true rfl)⟩) (fun u50 H locs h I => ?_)
    have I : kn_I D tc (kn_A _ s.heap.size) s.heap [(kModel, ad_m, _)] _ _ := I
    exact kw_vret hx hb hr hlocks I _ rfl h (kn_dec tX9_carriesAll_t1 48 rfl)
  · have h := h.2 c18
    exact kw_vret hx hb hr hlocks I _ rfl h (kn_dec tX9_carriesAll_t0 39 rfl)

/-! X9_keepsAll -/
abbrev rmX9_keepsAll : Room := { frames := 2, cells := 0, slots := 0, locals := 44 }
def PX9_keepsAll  (v_m : OV) (post : OV → Prop) : Prop := (PX9_carriesAll v_m ((4 : Int32)) ((0 : Int32)) (fun v_m1 => post v_m1))
set_option maxRecDepth 100000 in
set_option maxHeartbeats 1000000 in
theorem ctX9_keepsAll {l : Launch} {D : va_G} {tc : Nat → ClassId} {Z : (Nat → Nat) × (Nat → Nat)}  {ad_m : Nat → Nat} {v_m : OV}    {post : OV → Prop} (h : PX9_keepsAll  v_m post) : CTv l D tc Z yX9_keepsAll (Cond.code yX9_keepsAll cX9_keepsAll 1 none :: kn_all) rmX9_keepsAll 0 0 [.ref (ad_m 0)] [(kModel, ad_m, v_m)] (fun (u : OV) => [(kModel, ad_m, u)]) (fun (u : OV) => post u) := by
  refine kn_ofv (cc := cX9_keepsAll) (nL := 1) (ret := none) (lv := [(0, .ref (ad_m 0))]) (by decide) (Nat.le_of_ble_eq_true rfl) rfl (fun p e s m below meth c ls X I hl _ => ?_)
  obtain ⟨S0, hr, hlocks, hK, hZ, hA⟩ := id X
  obtain ⟨hx, hb, hml, hown, hts⟩ := id S0
  unfold PX9_keepsAll at h
  refine lv_aload_n hx hb (kn_dec tX9_keepsAll 0 rfl) rfl (lv_at hl 0 rfl) ?_
  refine lv_iconst (v := (4)) hx hb (kn_dec tX9_keepsAll 1 rfl) (by decide) ?_
  refine lv_iconst (v := (0)) hx hb (kn_dec tX9_keepsAll 2 rfl) (by decide) ?_
  refine kw_callv (wc := [(kModel, ad_m, _)]) (wr := []) I hA [0] [] rfl rfl (by decide) (by decide) (kn_runV (As := [.int _, .int _]) S0 hK hZ hA I ((ctX9_carriesAll (Or.inl rfl) h).met _) (kn_cwV 2 hts q7_1 q7_3 q0_79 q1_10 q7_4 rfl rfl (by decide +kernel) ⟨(Nat.le_of_ble_eq_true rfl), (Nat.le_of_ble_eq_true rfl)⟩) [0] rfl (by decide) 0 rfl rfl rfl rfl hl.1 rfl (Nat.le_of_ble_eq_true rfl) (kn_dec tX9_keepsAll 3 rfl) ⟨(Nat.le_of_ble_eq_true rfl), (Nat.le_of_ble_eq_true rfl)⟩) (fun u2 H locs h I => ?_)
  have I : kn_I D tc (kn_A _ s.heap.size) s.heap [(kModel, ad_m, _)] _ _ := I
  exact kw_vret hx hb hr hlocks I _ rfl h (kn_dec tX9_keepsAll 4 rfl)

/-! X9_laysBack -/
abbrev rmX9_laysBack : Room := { frames := 2, cells := 0, slots := 0, locals := 44 }
def PX9_laysBack  (v_m : OV) (post : OV → Prop) : Prop := (PX9_carriesAll v_m ((4 : Int32)) ((1 : Int32)) (fun v_m1 => post v_m1))
set_option maxRecDepth 100000 in
set_option maxHeartbeats 1000000 in
theorem ctX9_laysBack {l : Launch} {D : va_G} {tc : Nat → ClassId} {Z : (Nat → Nat) × (Nat → Nat)}  {ad_m : Nat → Nat} {v_m : OV}    {post : OV → Prop} (h : PX9_laysBack  v_m post) : CTv l D tc Z yX9_laysBack (Cond.code yX9_laysBack cX9_laysBack 1 none :: kn_all) rmX9_laysBack 0 0 [.ref (ad_m 0)] [(kModel, ad_m, v_m)] (fun (u : OV) => [(kModel, ad_m, u)]) (fun (u : OV) => post u) := by
  refine kn_ofv (cc := cX9_laysBack) (nL := 1) (ret := none) (lv := [(0, .ref (ad_m 0))]) (by decide) (Nat.le_of_ble_eq_true rfl) rfl (fun p e s m below meth c ls X I hl _ => ?_)
  obtain ⟨S0, hr, hlocks, hK, hZ, hA⟩ := id X
  obtain ⟨hx, hb, hml, hown, hts⟩ := id S0
  unfold PX9_laysBack at h
  refine lv_aload_n hx hb (kn_dec tX9_laysBack 0 rfl) rfl (lv_at hl 0 rfl) ?_
  refine lv_iconst (v := (4)) hx hb (kn_dec tX9_laysBack 1 rfl) (by decide) ?_
  refine lv_iconst (v := (1)) hx hb (kn_dec tX9_laysBack 2 rfl) (by decide) ?_
  refine kw_callv (wc := [(kModel, ad_m, _)]) (wr := []) I hA [0] [] rfl rfl (by decide) (by decide) (kn_runV (As := [.int _, .int _]) S0 hK hZ hA I ((ctX9_carriesAll (Or.inr rfl) h).met _) (kn_cwV 2 hts q7_1 q7_3 q0_79 q1_10 q7_4 rfl rfl (by decide +kernel) ⟨(Nat.le_of_ble_eq_true rfl), (Nat.le_of_ble_eq_true rfl)⟩) [0] rfl (by decide) 0 rfl rfl rfl rfl hl.1 rfl (Nat.le_of_ble_eq_true rfl) (kn_dec tX9_laysBack 3 rfl) ⟨(Nat.le_of_ble_eq_true rfl), (Nat.le_of_ble_eq_true rfl)⟩) (fun u2 H locs h I => ?_)
  have I : kn_I D tc (kn_A _ s.heap.size) s.heap [(kModel, ad_m, _)] _ _ := I
  exact kw_vret hx hb hr hlocks I _ rfl h (kn_dec tX9_laysBack 4 rfl)

/-! X9_ahead -/
abbrev rmX9_ahead : Room := { frames := 9, cells := 0, slots := 0, locals := 207 }
def PX9_ahead_b107   (post : Int32 → OV → Prop) (t0 : Int32) (v_m : OV) : Prop := (PX9_laysBack v_m (fun v_m1 => post t0 v_m1))
set_option maxRecDepth 100000 in
set_option maxHeartbeats 1000000 in
theorem wX9_ahead_b107   {post : Int32 → OV → Prop} {ad_m : Nat → Nat} (X : kn_X p s m args meth c cX9_ahead 6 (some .int) RX9 kn_all D tc Z (kn_A w0 s.heap.size))    : ∀ (H : Heap) (locs : List Loc) (ls : Array Slot) (t0 : Int32) (v_m : OV), kn_I D tc (kn_A w0 s.heap.size) s.heap [(kModel, ad_m, v_m)] H locs → lv_has ls 6 [(0, .ref (ad_m 0))] → PX9_ahead_b107 post t0 v_m → W p l e rmX9_ahead s m args below meth c H locs 0 0 (kn_Qi D tc w0 (fun (u : OV) => [(kModel, ad_m, u)]) (fun (r : Int32) (u : OV) => post r u) below args s 0 0) (F0 m 107 ls [.int t0]) := by
  obtain ⟨S0, hr, hlocks, hK, hZ, hA⟩ := id X
  obtain ⟨hx, hb, hml, hown, hts⟩ := id S0
  intro H locs ls t0 v_m I hl h
  unfold PX9_ahead_b107 at h
  refine lv_istore (lv' := [(5, .int _), (0, .ref (ad_m 0))]) hx hb (kn_dec tX9_ahead 57 rfl) hl (by decide) rfl (fun ls hl => ?_)
  refine lv_aload_n hx hb (kn_dec tX9_ahead 58 rfl) rfl (lv_at hl 1 rfl) ?_
  refine kw_callv (wc := [(kModel, ad_m, _)]) (wr := []) I hA [0] [] rfl rfl (by decide) (by decide) (kn_runV (As := []) S0 hK hZ hA I ((ctX9_laysBack h).met _) (kn_cwV 0 hts q7_13 q7_15 q0_82 q1_10 q7_16 rfl rfl (by decide +kernel) ⟨(Nat.le_of_ble_eq_true rfl), (Nat.le_of_ble_eq_true rfl)⟩) [0] rfl (by decide) 0 rfl rfl rfl rfl hl.1 rfl (Nat.le_of_ble_eq_true rfl) (kn_dec tX9_ahead 59 rfl) ⟨(Nat.le_of_ble_eq_true rfl), (Nat.le_of_ble_eq_true rfl)⟩) (fun u2 H locs h I => ?_)
  have I : kn_I D tc (kn_A w0 s.heap.size) s.heap [(kModel, ad_m, _)] _ _ := I
  refine lv_iload hx hb (kn_dec tX9_ahead 60 rfl) (lv_at hl 0 rfl) ?_
  exact kw_iret hx hb hr hlocks I _ rfl h (kn_dec tX9_ahead 61 rfl)
def PX9_ahead_b35   (post : Int32 → OV → Prop) (t0 : Int32) (y1 : Int32) (y2 : Int32) (y3 : Int32) (v_m : OV) : Prop := (PX9_isHill v_m (fun r1 => ((r1 = ((0 : Int32)) → post ((-2 : Int32)) v_m) ∧ (¬ r1 = ((0 : Int32)) → ((t0 = ((0 : Int32)) → post ((-2 : Int32)) v_m) ∧ (¬ t0 = ((0 : Int32)) → (PX9_in y2.toInt64 ((0 : Int64)) ((100 : Int64)) (fun r5 => ((¬ r5 = ((0 : Int32)) → (PX9_keepsAll v_m (fun v_m8 => (PX9_goFor v_m8 y2 (fun v_m10 => ((¬ y3 = ((0 : Int32)) → ((¬ y3 = ((1 : Int32)) → (vp_in y1 4 ∧ PX9_ahead_b107 post (v_m10.2.1 11 y1.toNatClampNeg) v_m10)) ∧ (y3 = ((1 : Int32)) → (vp_in y1 10 ∧ PX9_ahead_b107 post (v_m10.2.1 5 y1.toNatClampNeg) v_m10)))) ∧ (y3 = ((0 : Int32)) → PX9_ahead_b107 post (v_m10.2.1 1 ((7 : Int32)).toNatClampNeg) v_m10))))))) ∧ (r5 = ((0 : Int32)) → post ((-2 : Int32)) v_m))))))))))
set_option maxRecDepth 100000 in
set_option maxHeartbeats 1000000 in
theorem wX9_ahead_b35   {post : Int32 → OV → Prop} {ad_m : Nat → Nat} (X : kn_X p s m args meth c cX9_ahead 6 (some .int) RX9 kn_all D tc Z (kn_A w0 s.heap.size))    : ∀ (H : Heap) (locs : List Loc) (ls : Array Slot) (t0 : Int32) (y1 : Int32) (y2 : Int32) (y3 : Int32) (v_m : OV), (hz_t0 : t0 = 0 ∨ t0 = 1) → kn_I D tc (kn_A w0 s.heap.size) s.heap [(kModel, ad_m, v_m)] H locs → lv_has ls 6 [(0, .ref (ad_m 0)), (1, .int y1), (2, .int y2), (3, .int y3)] → PX9_ahead_b35 post t0 y1 y2 y3 v_m → W p l e rmX9_ahead s m args below meth c H locs 0 0 (kn_Qi D tc w0 (fun (u : OV) => [(kModel, ad_m, u)]) (fun (r : Int32) (u : OV) => post r u) below args s 0 0) (F0 m 35 ls [.int t0]) := by
  obtain ⟨S0, hr, hlocks, hK, hZ, hA⟩ := id X
  obtain ⟨hx, hb, hml, hown, hts⟩ := id S0
  intro H locs ls t0 y1 y2 y3 v_m hz_t0 I hl h
  unfold PX9_ahead_b35 at h
  refine lv_istore (lv' := [(4, .int _), (0, .ref (ad_m 0)), (1, .int _), (2, .int _), (3, .int _)]) hx hb (kn_dec tX9_ahead 19 rfl) hl (by decide) rfl (fun ls hl => ?_)
  refine lv_aload_n hx hb (kn_dec tX9_ahead 20 rfl) rfl (lv_at hl 1 rfl) ?_
  refine kw_calli (wc := [(kModel, ad_m, _)]) (wr := []) I hA [0] [] rfl rfl (by decide) (by decide) (kn_runV (As := []) S0 hK hZ hA I ((ctX9_isHill h).met _) (kn_cwV 0 hts q6_147 q6_149 q0_64 q1_10 q6_150 rfl rfl (by decide +kernel) ⟨(Nat.le_of_ble_eq_true rfl), (Nat.le_of_ble_eq_true rfl)⟩) [0] rfl (by decide) 0 rfl rfl rfl rfl hl.1 rfl (Nat.le_of_ble_eq_true rfl) (kn_dec tX9_ahead 21 rfl) ⟨(Nat.le_of_ble_eq_true rfl), (Nat.le_of_ble_eq_true rfl)⟩) (fun r1 u2 H locs h I => ?_)
  obtain ⟨hz_r1, h⟩ := h
  have I : kn_I D tc (kn_A w0 s.heap.size) s.heap [(kModel, ad_m, _)] _ _ := I
  refine lv_if_eq (tgt := 61) hx hb (kn_dec tX9_ahead 22 rfl) (by decide) (fun c3 => ?_) (fun c3 => ?_)
  · have h := h.1 c3
    refine lv_bipush (v := (-2)) hx hb (kn_dec tX9_ahead 31 rfl) (by decide) ?_
    exact kw_iret hx hb hr hlocks I _ rfl h (kn_dec tX9_ahead 32 rfl)
  · have h := h.2 c3
    refine lv_iload hx hb (kn_dec tX9_ahead 23 rfl) (lv_at hl 0 rfl) ?_
    refine lv_if_eq (tgt := 61) hx hb (kn_dec tX9_ahead 24 rfl) (by decide) (fun c4 => ?_) (fun c4 => ?_)
    · have h := h.1 c4
      refine lv_bipush (v := (-2)) hx hb (kn_dec tX9_ahead 31 rfl) (by decide) ?_
      exact kw_iret hx hb hr hlocks I _ rfl h (kn_dec tX9_ahead 32 rfl)
    · have h := h.2 c4
      refine lv_iload_n hx hb (kn_dec tX9_ahead 25 rfl) rfl (lv_at hl 3 rfl) ?_
      refine lv_i2l hx hb (kn_dec tX9_ahead 26 rfl) rfl ?_
      refine lv_lconst (v := 0) hx hb (kn_dec tX9_ahead 27 rfl) (by decide) ?_
      refine lv_ldc2 (v := (100)) hx hb hown (hts _ q6_236) (kn_dec tX9_ahead 28 rfl) ?_
      refine kw_calli (wc := []) (wr := [(kModel, ad_m, _)]) I hA [] [0] rfl rfl (by decide) (by decide) (kn_runS (As := [.long _, .long _, .long _]) S0 hK hZ hA I ((ctX9_in h).met _) (kn_cwS 3 hts q6_1 q6_2 q1_10 q6_3 rfl rfl (by decide +kernel) ⟨(Nat.le_of_ble_eq_true rfl), (Nat.le_of_ble_eq_true rfl)⟩) [] rfl (by decide) rfl hl.1 rfl (Nat.le_of_ble_eq_true rfl) (kn_dec tX9_ahead 29 rfl) ⟨(Nat.le_of_ble_eq_true rfl), (Nat.le_of_ble_eq_true rfl)⟩) (fun r5 u6 H locs h I => ?_)
      obtain ⟨hz_r5, h⟩ := h
      have I : kn_I D tc (kn_A w0 s.heap.size) s.heap [(kModel, ad_m, _)] _ _ := I
      refine lv_if_ne (tgt := 64) hx hb (kn_dec tX9_ahead 30 rfl) (by decide) (fun c7 => ?_) (fun c7 => ?_)
      · have h := h.1 c7
        refine lv_aload_n hx hb (kn_dec tX9_ahead 33 rfl) rfl (lv_at hl 1 rfl) ?_
        refine kw_callv (wc := [(kModel, ad_m, _)]) (wr := []) I hA [0] [] rfl rfl (by decide) (by decide) (kn_runV (As := []) S0 hK hZ hA I ((ctX9_keepsAll h).met _) (kn_cwV 0 hts q6_237 q6_239 q0_78 q1_10 q7_0 rfl rfl (by decide +kernel) ⟨(Nat.le_of_ble_eq_true rfl), (Nat.le_of_ble_eq_true rfl)⟩) [0] rfl (by decide) 0 rfl rfl rfl rfl hl.1 rfl (Nat.le_of_ble_eq_true rfl) (kn_dec tX9_ahead 34 rfl) ⟨(Nat.le_of_ble_eq_true rfl), (Nat.le_of_ble_eq_true rfl)⟩) (fun u9 H locs h I => ?_)
        have I : kn_I D tc (kn_A w0 s.heap.size) s.heap [(kModel, ad_m, _)] _ _ := I
        refine lv_aload_n hx hb (kn_dec tX9_ahead 35 rfl) rfl (lv_at hl 1 rfl) ?_
        refine lv_iload_n hx hb (kn_dec tX9_ahead 36 rfl) rfl (lv_at hl 3 rfl) ?_
        refine kw_callv (wc := [(kModel, ad_m, _)]) (wr := []) I hA [0] [] rfl rfl (by decide) (by decide) (kn_runV (As := [.int _]) S0 hK hZ hA I ((ctX9_goFor h).met _) (kn_cwV 1 hts q7_9 q7_11 q0_81 q1_10 q7_12 rfl rfl (by decide +kernel) ⟨(Nat.le_of_ble_eq_true rfl), (Nat.le_of_ble_eq_true rfl)⟩) [0] rfl (by decide) 0 rfl rfl rfl rfl hl.1 rfl (Nat.le_of_ble_eq_true rfl) (kn_dec tX9_ahead 37 rfl) ⟨(Nat.le_of_ble_eq_true rfl), (Nat.le_of_ble_eq_true rfl)⟩) (fun u11 H locs h I => ?_)
        have I : kn_I D tc (kn_A w0 s.heap.size) s.heap [(kModel, ad_m, _)] _ _ := I
        refine lv_iload_n hx hb (kn_dec tX9_ahead 38 rfl) rfl (lv_at hl 4 rfl) ?_
        refine lv_if_ne (tgt := 87) hx hb (kn_dec tX9_ahead 39 rfl) (by decide) (fun c12 => ?_) (fun c12 => ?_)
        · have h := h.1 c12
          refine lv_iload_n hx hb (kn_dec tX9_ahead 45 rfl) rfl (lv_at hl 4 rfl) ?_
          refine lv_iconst (v := (1)) hx hb (kn_dec tX9_ahead 46 rfl) (by decide) ?_
          refine lv_icmp_ne (tgt := 101) hx hb (kn_dec tX9_ahead 47 rfl) (by decide) (fun c13 => ?_) (fun c13 => ?_)
          · have h := h.1 c13
            refine lv_aload_n hx hb (kn_dec tX9_ahead 53 rfl) rfl (lv_at hl 1 rfl) ?_
            refine kw_getl hx hb hts inX9 hown hK I 0 rfl rfl 11 (by decide) rfl (hts _ q4_211) (kn_dec tX9_ahead 54 rfl) rfl ?_
            refine lv_iload_n hx hb (kn_dec tX9_ahead 55 rfl) rfl (lv_at hl 2 rfl) ?_
            obtain ⟨hs14, h⟩ := h
            refine kw_iald hx hb hK I 0 rfl 11 4 (List.mem_of_getElem? (i := 10) rfl) hs14 (kn_dec tX9_ahead 56 rfl) ?_
            exact wX9_ahead_b107 X _ _ _ _ _  I (lv_sub hl [1] rfl) h
          · have h := h.2 c13
            refine lv_aload_n hx hb (kn_dec tX9_ahead 48 rfl) rfl (lv_at hl 1 rfl) ?_
            refine kw_getl hx hb hts inX9 hown hK I 0 rfl rfl 5 (by decide) rfl (hts _ q4_205) (kn_dec tX9_ahead 49 rfl) rfl ?_
            refine lv_iload_n hx hb (kn_dec tX9_ahead 50 rfl) rfl (lv_at hl 2 rfl) ?_
            obtain ⟨hs15, h⟩ := h
            refine kw_iald hx hb hK I 0 rfl 5 10 (List.mem_of_getElem? (i := 4) rfl) hs15 (kn_dec tX9_ahead 51 rfl) ?_
            refine lv_goto (tgt := 107) hx hb (kn_dec tX9_ahead 52 rfl) (by decide) ?_
            exact wX9_ahead_b107 X _ _ _ _ _  I (lv_sub hl [1] rfl) h
        · have h := h.2 c12
          refine lv_aload_n hx hb (kn_dec tX9_ahead 40 rfl) rfl (lv_at hl 1 rfl) ?_
          refine kw_getl hx hb hts inX9 hown hK I 0 rfl rfl 1 (by decide) rfl (hts _ q4_201) (kn_dec tX9_ahead 41 rfl) rfl ?_
          refine lv_bipush (v := (7)) hx hb (kn_dec tX9_ahead 42 rfl) (by decide) ?_
          refine kw_iald hx hb hK I 0 rfl 1 12 (List.mem_of_getElem? (i := 0) rfl) (by unfold vp_in; decide) (kn_dec tX9_ahead 43 rfl) ?_
          refine lv_goto (tgt := 107) hx hb (kn_dec tX9_ahead 44 rfl) (by decide) ?_
          exact wX9_ahead_b107 X _ _ _ _ _  I (lv_sub hl [1] rfl) h
      · have h := h.2 c7
        refine lv_bipush (v := (-2)) hx hb (kn_dec tX9_ahead 31 rfl) (by decide) ?_
        exact kw_iret hx hb hr hlocks I _ rfl h (kn_dec tX9_ahead 32 rfl)
def PX9_ahead_b17   (post : Int32 → OV → Prop) (y1 : Int32) (y2 : Int32) (y3 : Int32) (v_m : OV) : Prop := ((¬ y3 = ((2 : Int32)) → PX9_ahead_b35 post ((0 : Int32)) y1 y2 y3 v_m) ∧ (y3 = ((2 : Int32)) → (PX9_isSeeker v_m y1 (fun r2 => ((r2 = ((0 : Int32)) → PX9_ahead_b35 post ((0 : Int32)) y1 y2 y3 v_m) ∧ (¬ r2 = ((0 : Int32)) → PX9_ahead_b35 post ((1 : Int32)) y1 y2 y3 v_m))))))
set_option maxRecDepth 100000 in
set_option maxHeartbeats 1000000 in
theorem wX9_ahead_b17   {post : Int32 → OV → Prop} {ad_m : Nat → Nat} (X : kn_X p s m args meth c cX9_ahead 6 (some .int) RX9 kn_all D tc Z (kn_A w0 s.heap.size))    : ∀ (H : Heap) (locs : List Loc) (ls : Array Slot) (y1 : Int32) (y2 : Int32) (y3 : Int32) (v_m : OV), kn_I D tc (kn_A w0 s.heap.size) s.heap [(kModel, ad_m, v_m)] H locs → lv_has ls 6 [(0, .ref (ad_m 0)), (1, .int y1), (2, .int y2), (3, .int y3)] → PX9_ahead_b17 post y1 y2 y3 v_m → W p l e rmX9_ahead s m args below meth c H locs 0 0 (kn_Qi D tc w0 (fun (u : OV) => [(kModel, ad_m, u)]) (fun (r : Int32) (u : OV) => post r u) below args s 0 0) (F0 m 17 ls []) := by
  obtain ⟨S0, hr, hlocks, hK, hZ, hA⟩ := id X
  obtain ⟨hx, hb, hml, hown, hts⟩ := id S0
  intro H locs ls y1 y2 y3 v_m I hl h
  unfold PX9_ahead_b17 at h
  refine lv_iload_n hx hb (kn_dec tX9_ahead 9 rfl) rfl (lv_at hl 3 rfl) ?_
  refine lv_iconst (v := (2)) hx hb (kn_dec tX9_ahead 10 rfl) (by decide) ?_
  refine lv_icmp_ne (tgt := 34) hx hb (kn_dec tX9_ahead 11 rfl) (by decide) (fun c1 => ?_) (fun c1 => ?_)
  · have h := h.1 c1
    refine lv_iconst (v := (0)) hx hb (kn_dec tX9_ahead 18 rfl) (by decide) ?_
    exact wX9_ahead_b35 X _ _ _ _ _ _ _ _ (Or.inl rfl) I (lv_sub hl [0, 1, 2, 3] rfl) h
  · have h := h.2 c1
    refine lv_aload_n hx hb (kn_dec tX9_ahead 12 rfl) rfl (lv_at hl 0 rfl) ?_
    refine lv_iload_n hx hb (kn_dec tX9_ahead 13 rfl) rfl (lv_at hl 1 rfl) ?_
    refine kw_calli (wc := [(kModel, ad_m, _)]) (wr := []) I hA [0] [] rfl rfl (by decide) (by decide) (kn_runV (As := [.int _]) S0 hK hZ hA I ((ctX9_isSeeker h).met _) (kn_cwV 1 hts q6_119 q6_121 q0_60 q1_10 q6_122 rfl rfl (by decide +kernel) ⟨(Nat.le_of_ble_eq_true rfl), (Nat.le_of_ble_eq_true rfl)⟩) [0] rfl (by decide) 0 rfl rfl rfl rfl hl.1 rfl (Nat.le_of_ble_eq_true rfl) (kn_dec tX9_ahead 14 rfl) ⟨(Nat.le_of_ble_eq_true rfl), (Nat.le_of_ble_eq_true rfl)⟩) (fun r2 u3 H locs h I => ?_)
    obtain ⟨hz_r2, h⟩ := h
    have I : kn_I D tc (kn_A w0 s.heap.size) s.heap [(kModel, ad_m, _)] _ _ := I
    refine lv_if_eq (tgt := 34) hx hb (kn_dec tX9_ahead 15 rfl) (by decide) (fun c4 => ?_) (fun c4 => ?_)
    · have h := h.1 c4
      refine lv_iconst (v := (0)) hx hb (kn_dec tX9_ahead 18 rfl) (by decide) ?_
      exact wX9_ahead_b35 X _ _ _ _ _ _ _ _ (Or.inl rfl) I (lv_sub hl [0, 1, 2, 3] rfl) h
    · have h := h.2 c4
      refine lv_iconst (v := (1)) hx hb (kn_dec tX9_ahead 16 rfl) (by decide) ?_
      refine lv_goto (tgt := 35) hx hb (kn_dec tX9_ahead 17 rfl) (by decide) ?_
      exact wX9_ahead_b35 X _ _ _ _ _ _ _ _ (Or.inr rfl) I (lv_sub hl [0, 1, 2, 3] rfl) h
def PX9_ahead  (v_m : OV) (a1 : Int32) (a2 : Int32) (a3 : Int32) (post : Int32 → OV → Prop) : Prop := ((a3 = ((0 : Int32)) → PX9_ahead_b35 post ((1 : Int32)) a1 a2 a3 v_m) ∧ (¬ a3 = ((0 : Int32)) → ((¬ a3 = ((1 : Int32)) → PX9_ahead_b17 post a1 a2 a3 v_m) ∧ (a3 = ((1 : Int32)) → (PX9_isStone v_m a1 (fun r3 => ((¬ r3 = ((0 : Int32)) → PX9_ahead_b35 post ((1 : Int32)) a1 a2 a3 v_m) ∧ (r3 = ((0 : Int32)) → PX9_ahead_b17 post a1 a2 a3 v_m))))))))
set_option maxRecDepth 100000 in
set_option maxHeartbeats 1000000 in
theorem ctX9_ahead {l : Launch} {D : va_G} {tc : Nat → ClassId} {Z : (Nat → Nat) × (Nat → Nat)}  {ad_m : Nat → Nat} {v_m : OV} {a1 : Int32} {a2 : Int32} {a3 : Int32}    {post : Int32 → OV → Prop} (h : PX9_ahead  v_m a1 a2 a3 post) : CTi l D tc Z yX9_ahead (Cond.code yX9_ahead cX9_ahead 6 (some .int) :: kn_all) rmX9_ahead 0 0 [.ref (ad_m 0), .int a1, .int a2, .int a3] [(kModel, ad_m, v_m)] (fun (u : OV) => [(kModel, ad_m, u)]) (fun (r : Int32) (u : OV) => post r u) := by
  refine kn_ofi (cc := cX9_ahead) (nL := 6) (ret := (some .int)) (lv := [(0, .ref (ad_m 0)), (1, .int a1), (2, .int a2), (3, .int a3)]) (by decide) (Nat.le_of_ble_eq_true rfl) rfl (fun p e s m below meth c ls X I hl _ => ?_)
  obtain ⟨S0, hr, hlocks, hK, hZ, hA⟩ := id X
  obtain ⟨hx, hb, hml, hown, hts⟩ := id S0
  unfold PX9_ahead at h
  refine lv_iload_n hx hb (kn_dec tX9_ahead 0 rfl) rfl (lv_at hl 3 rfl) ?_
  refine lv_if_eq (tgt := 30) hx hb (kn_dec tX9_ahead 1 rfl) (by decide) (fun c1 => ?_) (fun c1 => ?_)
  · have h := h.1 c1
    refine lv_iconst (v := (1)) hx hb (kn_dec tX9_ahead 16 rfl) (by decide) ?_
    refine lv_goto (tgt := 35) hx hb (kn_dec tX9_ahead 17 rfl) (by decide) ?_
    exact wX9_ahead_b35 X _ _ _ _ _ _ _ _ (Or.inr rfl) I (lv_sub hl [0, 1, 2, 3] rfl) h
  · have h := h.2 c1
    refine lv_iload_n hx hb (kn_dec tX9_ahead 2 rfl) rfl (lv_at hl 3 rfl) ?_
    refine lv_iconst (v := (1)) hx hb (kn_dec tX9_ahead 3 rfl) (by decide) ?_
    refine lv_icmp_ne (tgt := 17) hx hb (kn_dec tX9_ahead 4 rfl) (by decide) (fun c2 => ?_) (fun c2 => ?_)
    · have h := h.1 c2
      exact wX9_ahead_b17 X _ _ _ _ _ _ _  I (lv_sub hl [0, 1, 2, 3] rfl) h
    · have h := h.2 c2
      refine lv_aload_n hx hb (kn_dec tX9_ahead 5 rfl) rfl (lv_at hl 0 rfl) ?_
      refine lv_iload_n hx hb (kn_dec tX9_ahead 6 rfl) rfl (lv_at hl 1 rfl) ?_
      refine kw_calli (wc := [(kModel, ad_m, _)]) (wr := []) I hA [0] [] rfl rfl (by decide) (by decide) (kn_runV (As := [.int _]) S0 hK hZ hA I ((ctX9_isStone h).met _) (kn_cwV 1 hts q6_104 q6_106 q0_58 q1_10 q6_107 rfl rfl (by decide +kernel) ⟨(Nat.le_of_ble_eq_true rfl), (Nat.le_of_ble_eq_true rfl)⟩) [0] rfl (by decide) 0 rfl rfl rfl rfl hl.1 rfl (Nat.le_of_ble_eq_true rfl) (kn_dec tX9_ahead 7 rfl) ⟨(Nat.le_of_ble_eq_true rfl), (Nat.le_of_ble_eq_true rfl)⟩) (fun r3 u4 H locs h I => ?_)
      obtain ⟨hz_r3, h⟩ := h
      have I : kn_I D tc (kn_A _ s.heap.size) s.heap [(kModel, ad_m, _)] _ _ := I
      refine lv_if_ne (tgt := 30) hx hb (kn_dec tX9_ahead 8 rfl) (by decide) (fun c5 => ?_) (fun c5 => ?_)
      · have h := h.1 c5
        refine lv_iconst (v := (1)) hx hb (kn_dec tX9_ahead 16 rfl) (by decide) ?_
        refine lv_goto (tgt := 35) hx hb (kn_dec tX9_ahead 17 rfl) (by decide) ?_
        exact wX9_ahead_b35 X _ _ _ _ _ _ _ _ (Or.inr rfl) I (lv_sub hl [0, 1, 2, 3] rfl) h
      · have h := h.2 c5
        exact wX9_ahead_b17 X _ _ _ _ _ _ _  I (lv_sub hl [0, 1, 2, 3] rfl) h

/-! X9_today -/
abbrev rmX9_today : Room := { frames := 6, cells := 0, slots := 0, locals := 139 }
def PX9_today  (v_m : OV) (a1 : Int32) (a2 : Int32) (post : Int32 → OV → Prop) : Prop := (PX9_isSeeker v_m a1 (fun r1 => ((r1 = ((0 : Int32)) → post ((-3 : Int32)) v_m) ∧ (¬ r1 = ((0 : Int32)) → ((((-1 : Int32)) ≤ a2 → (vp_in a1 4 ∧ (∀ x6 : Int32, x6 = (v_m.2.1 11 a1.toNatClampNeg) → (vp_in a1 4 ∧ (∀ v_m8 : OV, v_m8 = sa v_m 11 (upd (v_m.2.1 11) a1.toNatClampNeg ((-1 : Int32))) → (PX9_laysLooking v_m8 a1 (fun r10 v_m9 => (vp_in a1 4 ∧ (∀ v_m13 : OV, v_m13 = sa v_m9 11 (upd (v_m9.2.1 11) a1.toNatClampNeg x6) → ((¬ a2 = ((-1 : Int32)) → (((v_m13.1 53) ≤ a2 → post ((-2 : Int32)) v_m13) ∧ (¬ (v_m13.1 53) ≤ a2 → (vp_in a2 10 ∧ post (v_m13.2.1 51 a2.toNatClampNeg) v_m13)))) ∧ (a2 = ((-1 : Int32)) → post (v_m13.1 54) v_m13))))))))))) ∧ (¬ ((-1 : Int32)) ≤ a2 → post ((-3 : Int32)) v_m))))))
set_option maxRecDepth 100000 in
set_option maxHeartbeats 1000000 in
theorem ctX9_today {l : Launch} {D : va_G} {tc : Nat → ClassId} {Z : (Nat → Nat) × (Nat → Nat)}  {ad_m : Nat → Nat} {v_m : OV} {a1 : Int32} {a2 : Int32}    {post : Int32 → OV → Prop} (h : PX9_today  v_m a1 a2 post) : CTi l D tc Z yX9_today (Cond.code yX9_today cX9_today 4 (some .int) :: kn_all) rmX9_today 0 0 [.ref (ad_m 0), .int a1, .int a2] [(kModel, ad_m, v_m)] (fun (u : OV) => [(kModel, ad_m, u)]) (fun (r : Int32) (u : OV) => post r u) := by
  refine kn_ofi (cc := cX9_today) (nL := 4) (ret := (some .int)) (lv := [(0, .ref (ad_m 0)), (1, .int a1), (2, .int a2)]) (by decide) (Nat.le_of_ble_eq_true rfl) rfl (fun p e s m below meth c ls X I hl _ => ?_)
  obtain ⟨S0, hr, hlocks, hK, hZ, hA⟩ := id X
  obtain ⟨hx, hb, hml, hown, hts⟩ := id S0
  unfold PX9_today at h
  refine lv_aload_n hx hb (kn_dec tX9_today 0 rfl) rfl (lv_at hl 0 rfl) ?_
  refine lv_iload_n hx hb (kn_dec tX9_today 1 rfl) rfl (lv_at hl 1 rfl) ?_
  refine kw_calli (wc := [(kModel, ad_m, _)]) (wr := []) I hA [0] [] rfl rfl (by decide) (by decide) (kn_runV (As := [.int _]) S0 hK hZ hA I ((ctX9_isSeeker h).met _) (kn_cwV 1 hts q6_119 q6_121 q0_60 q1_10 q6_122 rfl rfl (by decide +kernel) ⟨(Nat.le_of_ble_eq_true rfl), (Nat.le_of_ble_eq_true rfl)⟩) [0] rfl (by decide) 0 rfl rfl rfl rfl hl.1 rfl (Nat.le_of_ble_eq_true rfl) (kn_dec tX9_today 2 rfl) ⟨(Nat.le_of_ble_eq_true rfl), (Nat.le_of_ble_eq_true rfl)⟩) (fun r1 u2 H locs h I => ?_)
  obtain ⟨hz_r1, h⟩ := h
  have I : kn_I D tc (kn_A _ s.heap.size) s.heap [(kModel, ad_m, _)] _ _ := I
  refine lv_if_eq (tgt := 13) hx hb (kn_dec tX9_today 3 rfl) (by decide) (fun c3 => ?_) (fun c3 => ?_)
  · have h := h.1 c3
    refine lv_bipush (v := (-3)) hx hb (kn_dec tX9_today 7 rfl) (by decide) ?_
    exact kw_iret hx hb hr hlocks I _ rfl h (kn_dec tX9_today 8 rfl)
  · have h := h.2 c3
    refine lv_iload_n hx hb (kn_dec tX9_today 4 rfl) rfl (lv_at hl 2 rfl) ?_
    refine lv_iconst (v := (-1)) hx hb (kn_dec tX9_today 5 rfl) (by decide) ?_
    refine lv_icmp_ge (tgt := 16) hx hb (kn_dec tX9_today 6 rfl) (by decide) (fun c4 => ?_) (fun c4 => ?_)
    · have h := h.1 c4
      refine lv_aload_n hx hb (kn_dec tX9_today 9 rfl) rfl (lv_at hl 0 rfl) ?_
      refine kw_getl hx hb hts inX9 hown hK I 0 rfl rfl 11 (by decide) rfl (hts _ q4_211) (kn_dec tX9_today 10 rfl) rfl ?_
      refine lv_iload_n hx hb (kn_dec tX9_today 11 rfl) rfl (lv_at hl 1 rfl) ?_
      obtain ⟨hs5, h⟩ := h
      refine kw_iald hx hb hK I 0 rfl 11 4 (List.mem_of_getElem? (i := 10) rfl) hs5 (kn_dec tX9_today 12 rfl) ?_
      refine lv_topi (fun x6 ex6 => ?_)
      have h := h x6 ex6
      refine lv_istore_n (lv' := [(3, .int _), (0, .ref (ad_m 0)), (1, .int _), (2, .int _)]) hx hb (kn_dec tX9_today 13 rfl) rfl hl (by decide) rfl (fun ls hl => ?_)
      refine lv_aload_n hx hb (kn_dec tX9_today 14 rfl) rfl (lv_at hl 1 rfl) ?_
      refine kw_getl hx hb hts inX9 hown hK I 0 rfl rfl 11 (by decide) rfl (hts _ q4_211) (kn_dec tX9_today 15 rfl) rfl ?_
      refine lv_iload_n hx hb (kn_dec tX9_today 16 rfl) rfl (lv_at hl 2 rfl) ?_
      refine lv_iconst (v := (-1)) hx hb (kn_dec tX9_today 17 rfl) (by decide) ?_
      obtain ⟨hs7, h⟩ := h
      refine kw_iast hx hb hK I 0 rfl 11 4 (List.mem_of_getElem? (i := 10) rfl) ukModel_11 hs7 (kn_dec tX9_today 18 rfl) (fun v_m8 ev_m8 H locs I => ?_)
      have h := h v_m8 ev_m8
      have I : kn_I D tc (kn_A _ s.heap.size) s.heap [(kModel, ad_m, _)] _ _ := I
      refine lv_aload_n hx hb (kn_dec tX9_today 19 rfl) rfl (lv_at hl 1 rfl) ?_
      refine lv_iload_n hx hb (kn_dec tX9_today 20 rfl) rfl (lv_at hl 2 rfl) ?_
      refine kw_calli (wc := [(kModel, ad_m, _)]) (wr := []) I hA [0] [] rfl rfl (by decide) (by decide) (kn_runV (As := [.int _]) S0 hK hZ hA I ((ctX9_laysLooking h).met _) (kn_cwV 1 hts q6_163 q6_165 q0_68 q1_10 q6_166 rfl rfl (by decide +kernel) ⟨(Nat.le_of_ble_eq_true rfl), (Nat.le_of_ble_eq_true rfl)⟩) [0] rfl (by decide) 0 rfl rfl rfl rfl hl.1 rfl (Nat.le_of_ble_eq_true rfl) (kn_dec tX9_today 21 rfl) ⟨(Nat.le_of_ble_eq_true rfl), (Nat.le_of_ble_eq_true rfl)⟩) (fun r10 u11 H locs h I => ?_)
      obtain ⟨hz_r10, h⟩ := h
      have I : kn_I D tc (kn_A _ s.heap.size) s.heap [(kModel, ad_m, _)] _ _ := I
      refine lv_pop hx hb (kn_dec tX9_today 22 rfl) rfl ?_
      refine lv_aload_n hx hb (kn_dec tX9_today 23 rfl) rfl (lv_at hl 1 rfl) ?_
      refine kw_getl hx hb hts inX9 hown hK I 0 rfl rfl 11 (by decide) rfl (hts _ q4_211) (kn_dec tX9_today 24 rfl) rfl ?_
      refine lv_iload_n hx hb (kn_dec tX9_today 25 rfl) rfl (lv_at hl 2 rfl) ?_
      refine lv_iload_n hx hb (kn_dec tX9_today 26 rfl) rfl (lv_at hl 0 rfl) ?_
      obtain ⟨hs12, h⟩ := h
      refine kw_iast hx hb hK I 0 rfl 11 4 (List.mem_of_getElem? (i := 10) rfl) ukModel_11 hs12 (kn_dec tX9_today 27 rfl) (fun v_m13 ev_m13 H locs I => ?_)
      have h := h v_m13 ev_m13
      have I : kn_I D tc (kn_A _ s.heap.size) s.heap [(kModel, ad_m, _)] _ _ := I
      refine lv_iload_n hx hb (kn_dec tX9_today 28 rfl) rfl (lv_at hl 3 rfl) ?_
      refine lv_iconst (v := (-1)) hx hb (kn_dec tX9_today 29 rfl) (by decide) ?_
      refine lv_icmp_ne (tgt := 53) hx hb (kn_dec tX9_today 30 rfl) (by decide) (fun c14 => ?_) (fun c14 => ?_)
      · have h := h.1 c14
        refine lv_iload_n hx hb (kn_dec tX9_today 34 rfl) rfl (lv_at hl 3 rfl) ?_
        refine lv_aload_n hx hb (kn_dec tX9_today 35 rfl) rfl (lv_at hl 1 rfl) ?_
        refine kw_geti hx hb hts inX9 hown hK I 0 rfl rfl 53 (by decide) rfl (hts _ q5_13) (kn_dec tX9_today 36 rfl) ?_
        refine lv_icmp_ge (tgt := 70) hx hb (kn_dec tX9_today 37 rfl) (by decide) (fun c15 => ?_) (fun c15 => ?_)
        · have h := h.1 c15
          refine lv_bipush (v := (-2)) hx hb (kn_dec tX9_today 43 rfl) (by decide) ?_
          exact kw_iret hx hb hr hlocks I _ rfl h (kn_dec tX9_today 44 rfl)
        · have h := h.2 c15
          refine lv_aload_n hx hb (kn_dec tX9_today 38 rfl) rfl (lv_at hl 1 rfl) ?_
          refine kw_getl hx hb hts inX9 hown hK I 0 rfl rfl 51 (by decide) rfl (hts _ q5_11) (kn_dec tX9_today 39 rfl) rfl ?_
          refine lv_iload_n hx hb (kn_dec tX9_today 40 rfl) rfl (lv_at hl 3 rfl) ?_
          obtain ⟨hs16, h⟩ := h
          refine kw_iald hx hb hK I 0 rfl 51 10 (List.mem_of_getElem? (i := 39) rfl) hs16 (kn_dec tX9_today 41 rfl) ?_
          refine lv_goto (tgt := 72) hx hb (kn_dec tX9_today 42 rfl) (by decide) ?_
          exact kw_iret hx hb hr hlocks I _ rfl h (kn_dec tX9_today 44 rfl)
      · have h := h.2 c14
        refine lv_aload_n hx hb (kn_dec tX9_today 31 rfl) rfl (lv_at hl 1 rfl) ?_
        refine kw_geti hx hb hts inX9 hown hK I 0 rfl rfl 54 (by decide) rfl (hts _ q5_14) (kn_dec tX9_today 32 rfl) ?_
        exact kw_iret hx hb hr hlocks I _ rfl h (kn_dec tX9_today 33 rfl)
    · have h := h.2 c4
      refine lv_bipush (v := (-3)) hx hb (kn_dec tX9_today 7 rfl) (by decide) ?_
      exact kw_iret hx hb hr hlocks I _ rfl h (kn_dec tX9_today 8 rfl)

/-! X9_first -/
abbrev rmX9_first : Room := { frames := 7, cells := 0, slots := 0, locals := 163 }
def PX9_first_b118   (post : Int32 → OV → Prop) (y1 : Int32) (y2 : Int32) (y3 : Int32) (v_m : OV) : Prop := (PX9_laysBack v_m (fun v_m1 => ((¬ y1 = ((0 : Int32)) → post y3 v_m1) ∧ (y1 = ((0 : Int32)) → post y2 v_m1))))
set_option maxRecDepth 100000 in
set_option maxHeartbeats 1000000 in
theorem wX9_first_b118   {post : Int32 → OV → Prop} {ad_m : Nat → Nat} (X : kn_X p s m args meth c cX9_first 6 (some .int) RX9 kn_all D tc Z (kn_A w0 s.heap.size))    : ∀ (H : Heap) (locs : List Loc) (ls : Array Slot) (y1 : Int32) (y2 : Int32) (y3 : Int32) (v_m : OV), kn_I D tc (kn_A w0 s.heap.size) s.heap [(kModel, ad_m, v_m)] H locs → lv_has ls 6 [(0, .ref (ad_m 0)), (1, .int y1), (2, .int y2), (3, .int y3)] → PX9_first_b118 post y1 y2 y3 v_m → W p l e rmX9_first s m args below meth c H locs 0 0 (kn_Qi D tc w0 (fun (u : OV) => [(kModel, ad_m, u)]) (fun (r : Int32) (u : OV) => post r u) below args s 0 0) (F0 m 118 ls []) := by
  obtain ⟨S0, hr, hlocks, hK, hZ, hA⟩ := id X
  obtain ⟨hx, hb, hml, hown, hts⟩ := id S0
  intro H locs ls y1 y2 y3 v_m I hl h
  unfold PX9_first_b118 at h
  refine lv_aload_n hx hb (kn_dec tX9_first 62 rfl) rfl (lv_at hl 0 rfl) ?_
  refine kw_callv (wc := [(kModel, ad_m, _)]) (wr := []) I hA [0] [] rfl rfl (by decide) (by decide) (kn_runV (As := []) S0 hK hZ hA I ((ctX9_laysBack h).met _) (kn_cwV 0 hts q7_13 q7_15 q0_82 q1_10 q7_16 rfl rfl (by decide +kernel) ⟨(Nat.le_of_ble_eq_true rfl), (Nat.le_of_ble_eq_true rfl)⟩) [0] rfl (by decide) 0 rfl rfl rfl rfl hl.1 rfl (Nat.le_of_ble_eq_true rfl) (kn_dec tX9_first 63 rfl) ⟨(Nat.le_of_ble_eq_true rfl), (Nat.le_of_ble_eq_true rfl)⟩) (fun u2 H locs h I => ?_)
  have I : kn_I D tc (kn_A w0 s.heap.size) s.heap [(kModel, ad_m, _)] _ _ := I
  refine lv_iload_n hx hb (kn_dec tX9_first 64 rfl) rfl (lv_at hl 1 rfl) ?_
  refine lv_if_ne (tgt := 130) hx hb (kn_dec tX9_first 65 rfl) (by decide) (fun c3 => ?_) (fun c3 => ?_)
  · have h := h.1 c3
    refine lv_iload_n hx hb (kn_dec tX9_first 68 rfl) rfl (lv_at hl 3 rfl) ?_
    exact kw_iret hx hb hr hlocks I _ rfl h (kn_dec tX9_first 69 rfl)
  · have h := h.2 c3
    refine lv_iload_n hx hb (kn_dec tX9_first 66 rfl) rfl (lv_at hl 2 rfl) ?_
    refine lv_goto (tgt := 131) hx hb (kn_dec tX9_first 67 rfl) (by decide) ?_
    exact kw_iret hx hb hr hlocks I _ rfl h (kn_dec tX9_first 69 rfl)
def PX9_first_b102  (K32 : Int32 → Int32 → Int32 → Int32 → OV → Prop) (post : Int32 → OV → Prop) (y1 : Int32) (y2 : Int32) (y3 : Int32) (y4 : Int32) (v_m : OV) : Prop := ((¬ y2 = ((-2 : Int32)) → (∀ x2 : Int32, x2 = y4 + (1 : Int32) → K32 y1 y2 y3 x2 v_m)) ∧ (y2 = ((-2 : Int32)) → (PX9_walksBy v_m (fun v_m3 => (∀ x5 : Int32, x5 = y4 + (1 : Int32) → K32 y1 y2 y3 x5 v_m3)))))
set_option maxRecDepth 100000 in
set_option maxHeartbeats 1000000 in
theorem wX9_first_b102  {K32 : Int32 → Int32 → Int32 → Int32 → OV → Prop} {post : Int32 → OV → Prop} {ad_m : Nat → Nat} (X : kn_X p s m args meth c cX9_first 6 (some .int) RX9 kn_all D tc Z (kn_A w0 s.heap.size))   (hK32 : ∀ (H : Heap) (locs : List Loc) (ls : Array Slot) (y1 : Int32) (y2 : Int32) (y3 : Int32) (y4 : Int32) (v_m : OV), kn_I D tc (kn_A w0 s.heap.size) s.heap [(kModel, ad_m, v_m)] H locs → lv_has ls 6 [(0, .ref (ad_m 0)), (1, .int y1), (2, .int y2), (3, .int y3), (4, .int y4)] → K32 y1 y2 y3 y4 v_m → W p l e rmX9_first s m args below meth c H locs 0 0 (kn_Qi D tc w0 (fun (u : OV) => [(kModel, ad_m, u)]) (fun (r : Int32) (u : OV) => post r u) below args s 0 0) (F0 m 32 ls [])) : ∀ (H : Heap) (locs : List Loc) (ls : Array Slot) (y1 : Int32) (y2 : Int32) (y3 : Int32) (y4 : Int32) (v_m : OV), kn_I D tc (kn_A w0 s.heap.size) s.heap [(kModel, ad_m, v_m)] H locs → lv_has ls 6 [(0, .ref (ad_m 0)), (1, .int y1), (2, .int y2), (3, .int y3), (4, .int y4)] → PX9_first_b102 K32 post y1 y2 y3 y4 v_m → W p l e rmX9_first s m args below meth c H locs 0 0 (kn_Qi D tc w0 (fun (u : OV) => [(kModel, ad_m, u)]) (fun (r : Int32) (u : OV) => post r u) below args s 0 0) (F0 m 102 ls []) := by
  obtain ⟨S0, hr, hlocks, hK, hZ, hA⟩ := id X
  obtain ⟨hx, hb, hml, hown, hts⟩ := id S0
  intro H locs ls y1 y2 y3 y4 v_m I hl h
  unfold PX9_first_b102 at h
  refine lv_iload_n hx hb (kn_dec tX9_first 55 rfl) rfl (lv_at hl 2 rfl) ?_
  refine lv_bipush (v := (-2)) hx hb (kn_dec tX9_first 56 rfl) (by decide) ?_
  refine lv_icmp_ne (tgt := 112) hx hb (kn_dec tX9_first 57 rfl) (by decide) (fun c1 => ?_) (fun c1 => ?_)
  · have h := h.1 c1
    refine kw_iinc (lvf := fun y => [(4, .int y), (0, .ref (ad_m 0)), (1, .int _), (2, .int _), (3, .int _)]) (nv := (1)) hx hb (kn_dec tX9_first 60 rfl) hl (k := 4) rfl (by decide) (by decide) (fun _ => rfl) (fun x2 ex2 ls hl => ?_)
    have h := h x2 ex2
    refine lv_goto (tgt := 32) hx hb (kn_dec tX9_first 61 rfl) (by decide) ?_
    exact hK32 _ _ _ _ _ _ _ _  I (lv_sub hl [1, 2, 3, 4, 0] rfl) h
  · have h := h.2 c1
    refine lv_aload_n hx hb (kn_dec tX9_first 58 rfl) rfl (lv_at hl 0 rfl) ?_
    refine kw_callv (wc := [(kModel, ad_m, _)]) (wr := []) I hA [0] [] rfl rfl (by decide) (by decide) (kn_runV (As := []) S0 hK hZ hA I ((ctX9_walksBy h).met _) (kn_cwV 0 hts q6_207 q6_209 q0_76 q1_10 q6_210 rfl rfl (by decide +kernel) ⟨(Nat.le_of_ble_eq_true rfl), (Nat.le_of_ble_eq_true rfl)⟩) [0] rfl (by decide) 0 rfl rfl rfl rfl hl.1 rfl (Nat.le_of_ble_eq_true rfl) (kn_dec tX9_first 59 rfl) ⟨(Nat.le_of_ble_eq_true rfl), (Nat.le_of_ble_eq_true rfl)⟩) (fun u4 H locs h I => ?_)
    have I : kn_I D tc (kn_A w0 s.heap.size) s.heap [(kModel, ad_m, _)] _ _ := I
    refine kw_iinc (lvf := fun y => [(4, .int y), (0, .ref (ad_m 0)), (1, .int _), (2, .int _), (3, .int _)]) (nv := (1)) hx hb (kn_dec tX9_first 60 rfl) hl (k := 4) rfl (by decide) (by decide) (fun _ => rfl) (fun x5 ex5 ls hl => ?_)
    have h := h x5 ex5
    refine lv_goto (tgt := 32) hx hb (kn_dec tX9_first 61 rfl) (by decide) ?_
    exact hK32 _ _ _ _ _ _ _ _  I (lv_sub hl [1, 2, 3, 4, 0] rfl) h
def PX9_first_L48  (K32 : Int32 → Int32 → Int32 → Int32 → OV → Prop) (post : Int32 → OV → Prop) : Nat → Int32 → Int32 → Int32 → Int32 → Int32 → OV → Prop
  | 0, _, _, _, _, _, _ => False
  | n + 1, y1, y2, y3, y4, y5, v_m => (((v_m.2.1 1 ((5 : Int32)).toNatClampNeg) ≤ y5 → PX9_first_b102 K32 post y1 y2 y3 y4 v_m) ∧ (¬ (v_m.2.1 1 ((5 : Int32)).toNatClampNeg) ≤ y5 → ((¬ y2 = ((-2 : Int32)) → PX9_first_b102 K32 post y1 y2 y3 y4 v_m) ∧ (y2 = ((-2 : Int32)) → (vp_in y5 4 ∧ ((¬ (v_m.2.1 11 y5.toNatClampNeg) = ((-1 : Int32)) → (∀ x5 : Int32, x5 = y5 + (1 : Int32) → PX9_first_L48 K32 post n y1 y2 y3 y4 x5 v_m)) ∧ ((v_m.2.1 11 y5.toNatClampNeg) = ((-1 : Int32)) → (PX9_looksFor v_m y5 (fun r7 v_m6 => ((r7 = ((0 : Int32)) → (∀ x10 : Int32, x10 = y5 + (1 : Int32) → PX9_first_L48 K32 post n y1 y2 y3 y4 x10 v_m6)) ∧ (¬ r7 = ((0 : Int32)) → (∀ x11 : Int32, x11 = (v_m6.2.1 1 ((8 : Int32)).toNatClampNeg) → (∀ x12 : Int32, x12 = y5 + (1 : Int32) → PX9_first_L48 K32 post n y1 y5 x11 y4 x12 v_m6)))))))))))))
set_option maxRecDepth 100000 in
set_option maxHeartbeats 1000000 in
theorem wX9_first_L48  {K32 : Int32 → Int32 → Int32 → Int32 → OV → Prop} {post : Int32 → OV → Prop} {ad_m : Nat → Nat} (X : kn_X p s m args meth c cX9_first 6 (some .int) RX9 kn_all D tc Z (kn_A w0 s.heap.size))   (hK32 : ∀ (H : Heap) (locs : List Loc) (ls : Array Slot) (y1 : Int32) (y2 : Int32) (y3 : Int32) (y4 : Int32) (v_m : OV), kn_I D tc (kn_A w0 s.heap.size) s.heap [(kModel, ad_m, v_m)] H locs → lv_has ls 6 [(0, .ref (ad_m 0)), (1, .int y1), (2, .int y2), (3, .int y3), (4, .int y4)] → K32 y1 y2 y3 y4 v_m → W p l e rmX9_first s m args below meth c H locs 0 0 (kn_Qi D tc w0 (fun (u : OV) => [(kModel, ad_m, u)]) (fun (r : Int32) (u : OV) => post r u) below args s 0 0) (F0 m 32 ls [])) : ∀ n : Nat, ∀ (H : Heap) (locs : List Loc) (ls : Array Slot) (y1 : Int32) (y2 : Int32) (y3 : Int32) (y4 : Int32) (y5 : Int32) (v_m : OV), kn_I D tc (kn_A w0 s.heap.size) s.heap [(kModel, ad_m, v_m)] H locs → lv_has ls 6 [(0, .ref (ad_m 0)), (1, .int y1), (2, .int y2), (3, .int y3), (4, .int y4), (5, .int y5)] → PX9_first_L48 K32 post n y1 y2 y3 y4 y5 v_m → W p l e rmX9_first s m args below meth c H locs 0 0 (kn_Qi D tc w0 (fun (u : OV) => [(kModel, ad_m, u)]) (fun (r : Int32) (u : OV) => post r u) below args s 0 0) (F0 m 48 ls []) := by
  obtain ⟨S0, hr, hlocks, hK, hZ, hA⟩ := id X
  obtain ⟨hx, hb, hml, hown, hts⟩ := id S0
  intro n
  induction n with
  | zero =>
    intro H locs ls y1 y2 y3 y4 y5 v_m I hl h
    unfold PX9_first_L48 at h
    exact h.elim
  | succ n ih =>
    intro H locs ls y1 y2 y3 y4 y5 v_m I hl h
    unfold PX9_first_L48 at h
    refine lv_iload hx hb (kn_dec tX9_first 27 rfl) (lv_at hl 5 rfl) ?_
    refine lv_aload_n hx hb (kn_dec tX9_first 28 rfl) rfl (lv_at hl 0 rfl) ?_
    refine kw_getl hx hb hts inX9 hown hK I 0 rfl rfl 1 (by decide) rfl (hts _ q4_201) (kn_dec tX9_first 29 rfl) rfl ?_
    refine lv_iconst (v := (5)) hx hb (kn_dec tX9_first 30 rfl) (by decide) ?_
    refine kw_iald hx hb hK I 0 rfl 1 12 (List.mem_of_getElem? (i := 0) rfl) (by unfold vp_in; decide) (kn_dec tX9_first 31 rfl) ?_
    refine lv_icmp_ge (tgt := 102) hx hb (kn_dec tX9_first 32 rfl) (by decide) (fun c1 => ?_) (fun c1 => ?_)
    · have h := h.1 c1
      exact wX9_first_b102 X hK32 _ _ _ _ _ _ _ _  I (lv_sub hl [0, 1, 2, 3, 4] rfl) h
    · have h := h.2 c1
      refine lv_iload_n hx hb (kn_dec tX9_first 33 rfl) rfl (lv_at hl 2 rfl) ?_
      refine lv_bipush (v := (-2)) hx hb (kn_dec tX9_first 34 rfl) (by decide) ?_
      refine lv_icmp_ne (tgt := 102) hx hb (kn_dec tX9_first 35 rfl) (by decide) (fun c2 => ?_) (fun c2 => ?_)
      · have h := h.1 c2
        exact wX9_first_b102 X hK32 _ _ _ _ _ _ _ _  I (lv_sub hl [0, 1, 2, 3, 4] rfl) h
      · have h := h.2 c2
        refine lv_aload_n hx hb (kn_dec tX9_first 36 rfl) rfl (lv_at hl 0 rfl) ?_
        refine kw_getl hx hb hts inX9 hown hK I 0 rfl rfl 11 (by decide) rfl (hts _ q4_211) (kn_dec tX9_first 37 rfl) rfl ?_
        refine lv_iload hx hb (kn_dec tX9_first 38 rfl) (lv_at hl 5 rfl) ?_
        obtain ⟨hs3, h⟩ := h
        refine kw_iald hx hb hK I 0 rfl 11 4 (List.mem_of_getElem? (i := 10) rfl) hs3 (kn_dec tX9_first 39 rfl) ?_
        refine lv_iconst (v := (-1)) hx hb (kn_dec tX9_first 40 rfl) (by decide) ?_
        refine lv_icmp_ne (tgt := 96) hx hb (kn_dec tX9_first 41 rfl) (by decide) (fun c4 => ?_) (fun c4 => ?_)
        · have h := h.1 c4
          refine kw_iinc (lvf := fun y => [(5, .int y), (0, .ref (ad_m 0)), (1, .int _), (2, .int _), (3, .int _), (4, .int _)]) (nv := (1)) hx hb (kn_dec tX9_first 53 rfl) hl (k := 5) rfl (by decide) (by decide) (fun _ => rfl) (fun x5 ex5 ls hl => ?_)
          have h := h x5 ex5
          refine lv_goto (tgt := 48) hx hb (kn_dec tX9_first 54 rfl) (by decide) ?_
          exact ih _ _ _ _ _ _ _ _ _  I (lv_sub hl [1, 2, 3, 4, 5, 0] rfl) h
        · have h := h.2 c4
          refine lv_aload_n hx hb (kn_dec tX9_first 42 rfl) rfl (lv_at hl 0 rfl) ?_
          refine lv_iload hx hb (kn_dec tX9_first 43 rfl) (lv_at hl 5 rfl) ?_
          refine kw_calli (wc := [(kModel, ad_m, _)]) (wr := []) I hA [0] [] rfl rfl (by decide) (by decide) (kn_runV (As := [.int _]) S0 hK hZ hA I ((ctX9_looksFor h).met _) (kn_cwV 1 hts q6_159 q6_161 q0_67 q1_10 q6_162 rfl rfl (by decide +kernel) ⟨(Nat.le_of_ble_eq_true rfl), (Nat.le_of_ble_eq_true rfl)⟩) [0] rfl (by decide) 0 rfl rfl rfl rfl hl.1 rfl (Nat.le_of_ble_eq_true rfl) (kn_dec tX9_first 44 rfl) ⟨(Nat.le_of_ble_eq_true rfl), (Nat.le_of_ble_eq_true rfl)⟩) (fun r7 u8 H locs h I => ?_)
          obtain ⟨hz_r7, h⟩ := h
          have I : kn_I D tc (kn_A w0 s.heap.size) s.heap [(kModel, ad_m, _)] _ _ := I
          refine lv_if_eq (tgt := 96) hx hb (kn_dec tX9_first 45 rfl) (by decide) (fun c9 => ?_) (fun c9 => ?_)
          · have h := h.1 c9
            refine kw_iinc (lvf := fun y => [(5, .int y), (0, .ref (ad_m 0)), (1, .int _), (2, .int _), (3, .int _), (4, .int _)]) (nv := (1)) hx hb (kn_dec tX9_first 53 rfl) hl (k := 5) rfl (by decide) (by decide) (fun _ => rfl) (fun x10 ex10 ls hl => ?_)
            have h := h x10 ex10
            refine lv_goto (tgt := 48) hx hb (kn_dec tX9_first 54 rfl) (by decide) ?_
            exact ih _ _ _ _ _ _ _ _ _  I (lv_sub hl [1, 2, 3, 4, 5, 0] rfl) h
          · have h := h.2 c9
            refine lv_iload hx hb (kn_dec tX9_first 46 rfl) (lv_at hl 5 rfl) ?_
            refine lv_istore_n (lv' := [(2, .int _), (0, .ref (ad_m 0)), (1, .int _), (3, .int _), (4, .int _), (5, .int _)]) hx hb (kn_dec tX9_first 47 rfl) rfl hl (by decide) rfl (fun ls hl => ?_)
            refine lv_aload_n hx hb (kn_dec tX9_first 48 rfl) rfl (lv_at hl 1 rfl) ?_
            refine kw_getl hx hb hts inX9 hown hK I 0 rfl rfl 1 (by decide) rfl (hts _ q4_201) (kn_dec tX9_first 49 rfl) rfl ?_
            refine lv_bipush (v := (8)) hx hb (kn_dec tX9_first 50 rfl) (by decide) ?_
            refine kw_iald hx hb hK I 0 rfl 1 12 (List.mem_of_getElem? (i := 0) rfl) (by unfold vp_in; decide) (kn_dec tX9_first 51 rfl) ?_
            refine lv_topi (fun x11 ex11 => ?_)
            have h := h x11 ex11
            refine lv_istore_n (lv' := [(3, .int _), (2, .int _), (0, .ref (ad_m 0)), (1, .int _), (4, .int _), (5, .int _)]) hx hb (kn_dec tX9_first 52 rfl) rfl hl (by decide) rfl (fun ls hl => ?_)
            refine kw_iinc (lvf := fun y => [(5, .int y), (3, .int _), (2, .int _), (0, .ref (ad_m 0)), (1, .int _), (4, .int _)]) (nv := (1)) hx hb (kn_dec tX9_first 53 rfl) hl (k := 5) rfl (by decide) (by decide) (fun _ => rfl) (fun x12 ex12 ls hl => ?_)
            have h := h x12 ex12
            refine lv_goto (tgt := 48) hx hb (kn_dec tX9_first 54 rfl) (by decide) ?_
            exact ih _ _ _ _ _ _ _ _ _  I (lv_sub hl [3, 4, 2, 1, 5, 0] rfl) h
def PX9_first_L32   (post : Int32 → OV → Prop) : Nat → Int32 → Int32 → Int32 → Int32 → OV → Prop
  | 0, _, _, _, _, _ => False
  | n + 1, y1, y2, y3, y4, v_m => ((((60 : Int32)) ≤ y4 → PX9_first_b118 post y1 y2 y3 v_m) ∧ (¬ ((60 : Int32)) ≤ y4 → ((¬ y2 = ((-2 : Int32)) → PX9_first_b118 post y1 y2 y3 v_m) ∧ (y2 = ((-2 : Int32)) → (∃ n3 : Nat, PX9_first_L48 (PX9_first_L32 post n) post n3 y1 y2 y3 y4 ((0 : Int32)) v_m)))))
set_option maxRecDepth 100000 in
set_option maxHeartbeats 1000000 in
theorem wX9_first_L32   {post : Int32 → OV → Prop} {ad_m : Nat → Nat} (X : kn_X p s m args meth c cX9_first 6 (some .int) RX9 kn_all D tc Z (kn_A w0 s.heap.size))    : ∀ n : Nat, ∀ (H : Heap) (locs : List Loc) (ls : Array Slot) (y1 : Int32) (y2 : Int32) (y3 : Int32) (y4 : Int32) (v_m : OV), kn_I D tc (kn_A w0 s.heap.size) s.heap [(kModel, ad_m, v_m)] H locs → lv_has ls 6 [(0, .ref (ad_m 0)), (1, .int y1), (2, .int y2), (3, .int y3), (4, .int y4)] → PX9_first_L32 post n y1 y2 y3 y4 v_m → W p l e rmX9_first s m args below meth c H locs 0 0 (kn_Qi D tc w0 (fun (u : OV) => [(kModel, ad_m, u)]) (fun (r : Int32) (u : OV) => post r u) below args s 0 0) (F0 m 32 ls []) := by
  obtain ⟨S0, hr, hlocks, hK, hZ, hA⟩ := id X
  obtain ⟨hx, hb, hml, hown, hts⟩ := id S0
  intro n
  induction n with
  | zero =>
    intro H locs ls y1 y2 y3 y4 v_m I hl h
    unfold PX9_first_L32 at h
    exact h.elim
  | succ n ih =>
    intro H locs ls y1 y2 y3 y4 v_m I hl h
    unfold PX9_first_L32 at h
    refine lv_iload hx hb (kn_dec tX9_first 19 rfl) (lv_at hl 4 rfl) ?_
    refine lv_bipush (v := (60)) hx hb (kn_dec tX9_first 20 rfl) (by decide) ?_
    refine lv_icmp_ge (tgt := 118) hx hb (kn_dec tX9_first 21 rfl) (by decide) (fun c1 => ?_) (fun c1 => ?_)
    · have h := h.1 c1
      exact wX9_first_b118 X _ _ _ _ _ _ _  I (lv_sub hl [0, 1, 2, 3] rfl) h
    · have h := h.2 c1
      refine lv_iload_n hx hb (kn_dec tX9_first 22 rfl) rfl (lv_at hl 2 rfl) ?_
      refine lv_bipush (v := (-2)) hx hb (kn_dec tX9_first 23 rfl) (by decide) ?_
      refine lv_icmp_ne (tgt := 118) hx hb (kn_dec tX9_first 24 rfl) (by decide) (fun c2 => ?_) (fun c2 => ?_)
      · have h := h.1 c2
        exact wX9_first_b118 X _ _ _ _ _ _ _  I (lv_sub hl [0, 1, 2, 3] rfl) h
      · have h := h.2 c2
        refine lv_iconst (v := (0)) hx hb (kn_dec tX9_first 25 rfl) (by decide) ?_
        refine lv_istore (lv' := [(5, .int _), (0, .ref (ad_m 0)), (1, .int _), (2, .int _), (3, .int _), (4, .int _)]) hx hb (kn_dec tX9_first 26 rfl) hl (by decide) rfl (fun ls hl => ?_)
        obtain ⟨n3, h⟩ := h
        exact wX9_first_L48 X ih n3 _ _ _ _ _ _ _ _ _  I (lv_sub hl [1, 2, 3, 4, 5, 0] rfl) h
def PX9_first  (v_m : OV) (a1 : Int32) (post : Int32 → OV → Prop) : Prop := (PX9_isHill v_m (fun r1 => ((r1 = ((0 : Int32)) → post ((-1 : Int32)) v_m) ∧ (¬ r1 = ((0 : Int32)) → (PX9_in a1.toInt64 ((0 : Int64)) ((1 : Int64)) (fun r4 => ((¬ r4 = ((0 : Int32)) → (PX9_keepsAll v_m (fun v_m7 => (∃ n9 : Nat, PX9_first_L32 post n9 a1 ((-2 : Int32)) ((-2 : Int32)) ((0 : Int32)) v_m7)))) ∧ (r4 = ((0 : Int32)) → post ((-1 : Int32)) v_m))))))))
set_option maxRecDepth 100000 in
set_option maxHeartbeats 1000000 in
theorem ctX9_first {l : Launch} {D : va_G} {tc : Nat → ClassId} {Z : (Nat → Nat) × (Nat → Nat)}  {ad_m : Nat → Nat} {v_m : OV} {a1 : Int32}    {post : Int32 → OV → Prop} (h : PX9_first  v_m a1 post) : CTi l D tc Z yX9_first (Cond.code yX9_first cX9_first 6 (some .int) :: kn_all) rmX9_first 0 0 [.ref (ad_m 0), .int a1] [(kModel, ad_m, v_m)] (fun (u : OV) => [(kModel, ad_m, u)]) (fun (r : Int32) (u : OV) => post r u) := by
  refine kn_ofi (cc := cX9_first) (nL := 6) (ret := (some .int)) (lv := [(0, .ref (ad_m 0)), (1, .int a1)]) (by decide) (Nat.le_of_ble_eq_true rfl) rfl (fun p e s m below meth c ls X I hl _ => ?_)
  obtain ⟨S0, hr, hlocks, hK, hZ, hA⟩ := id X
  obtain ⟨hx, hb, hml, hown, hts⟩ := id S0
  unfold PX9_first at h
  refine lv_aload_n hx hb (kn_dec tX9_first 0 rfl) rfl (lv_at hl 0 rfl) ?_
  refine kw_calli (wc := [(kModel, ad_m, _)]) (wr := []) I hA [0] [] rfl rfl (by decide) (by decide) (kn_runV (As := []) S0 hK hZ hA I ((ctX9_isHill h).met _) (kn_cwV 0 hts q6_147 q6_149 q0_64 q1_10 q6_150 rfl rfl (by decide +kernel) ⟨(Nat.le_of_ble_eq_true rfl), (Nat.le_of_ble_eq_true rfl)⟩) [0] rfl (by decide) 0 rfl rfl rfl rfl hl.1 rfl (Nat.le_of_ble_eq_true rfl) (kn_dec tX9_first 1 rfl) ⟨(Nat.le_of_ble_eq_true rfl), (Nat.le_of_ble_eq_true rfl)⟩) (fun r1 u2 H locs h I => ?_)
  obtain ⟨hz_r1, h⟩ := h
  have I : kn_I D tc (kn_A _ s.heap.size) s.heap [(kModel, ad_m, _)] _ _ := I
  refine lv_if_eq (tgt := 17) hx hb (kn_dec tX9_first 2 rfl) (by decide) (fun c3 => ?_) (fun c3 => ?_)
  · have h := h.1 c3
    refine lv_iconst (v := (-1)) hx hb (kn_dec tX9_first 9 rfl) (by decide) ?_
    exact kw_iret hx hb hr hlocks I _ rfl h (kn_dec tX9_first 10 rfl)
  · have h := h.2 c3
    refine lv_iload_n hx hb (kn_dec tX9_first 3 rfl) rfl (lv_at hl 1 rfl) ?_
    refine lv_i2l hx hb (kn_dec tX9_first 4 rfl) rfl ?_
    refine lv_lconst (v := 0) hx hb (kn_dec tX9_first 5 rfl) (by decide) ?_
    refine lv_lconst (v := 1) hx hb (kn_dec tX9_first 6 rfl) (by decide) ?_
    refine kw_calli (wc := []) (wr := [(kModel, ad_m, _)]) I hA [] [0] rfl rfl (by decide) (by decide) (kn_runS (As := [.long _, .long _, .long _]) S0 hK hZ hA I ((ctX9_in h).met _) (kn_cwS 3 hts q6_1 q6_2 q1_10 q6_3 rfl rfl (by decide +kernel) ⟨(Nat.le_of_ble_eq_true rfl), (Nat.le_of_ble_eq_true rfl)⟩) [] rfl (by decide) rfl hl.1 rfl (Nat.le_of_ble_eq_true rfl) (kn_dec tX9_first 7 rfl) ⟨(Nat.le_of_ble_eq_true rfl), (Nat.le_of_ble_eq_true rfl)⟩) (fun r4 u5 H locs h I => ?_)
    obtain ⟨hz_r4, h⟩ := h
    have I : kn_I D tc (kn_A _ s.heap.size) s.heap [(kModel, ad_m, _)] _ _ := I
    refine lv_if_ne (tgt := 19) hx hb (kn_dec tX9_first 8 rfl) (by decide) (fun c6 => ?_) (fun c6 => ?_)
    · have h := h.1 c6
      refine lv_aload_n hx hb (kn_dec tX9_first 11 rfl) rfl (lv_at hl 0 rfl) ?_
      refine kw_callv (wc := [(kModel, ad_m, _)]) (wr := []) I hA [0] [] rfl rfl (by decide) (by decide) (kn_runV (As := []) S0 hK hZ hA I ((ctX9_keepsAll h).met _) (kn_cwV 0 hts q6_237 q6_239 q0_78 q1_10 q7_0 rfl rfl (by decide +kernel) ⟨(Nat.le_of_ble_eq_true rfl), (Nat.le_of_ble_eq_true rfl)⟩) [0] rfl (by decide) 0 rfl rfl rfl rfl hl.1 rfl (Nat.le_of_ble_eq_true rfl) (kn_dec tX9_first 12 rfl) ⟨(Nat.le_of_ble_eq_true rfl), (Nat.le_of_ble_eq_true rfl)⟩) (fun u8 H locs h I => ?_)
      have I : kn_I D tc (kn_A _ s.heap.size) s.heap [(kModel, ad_m, _)] _ _ := I
      refine lv_bipush (v := (-2)) hx hb (kn_dec tX9_first 13 rfl) (by decide) ?_
      refine lv_istore_n (lv' := [(2, .int _), (0, .ref (ad_m 0)), (1, .int _)]) hx hb (kn_dec tX9_first 14 rfl) rfl hl (by decide) rfl (fun ls hl => ?_)
      refine lv_bipush (v := (-2)) hx hb (kn_dec tX9_first 15 rfl) (by decide) ?_
      refine lv_istore_n (lv' := [(3, .int _), (2, .int _), (0, .ref (ad_m 0)), (1, .int _)]) hx hb (kn_dec tX9_first 16 rfl) rfl hl (by decide) rfl (fun ls hl => ?_)
      refine lv_iconst (v := (0)) hx hb (kn_dec tX9_first 17 rfl) (by decide) ?_
      refine lv_istore (lv' := [(4, .int _), (3, .int _), (2, .int _), (0, .ref (ad_m 0)), (1, .int _)]) hx hb (kn_dec tX9_first 18 rfl) hl (by decide) rfl (fun ls hl => ?_)
      obtain ⟨n9, h⟩ := h
      exact wX9_first_L32 X n9 _ _ _ _ _ _ _ _  I (lv_sub hl [3, 4, 2, 1, 0] rfl) h
    · have h := h.2 c6
      refine lv_iconst (v := (-1)) hx hb (kn_dec tX9_first 9 rfl) (by decide) ?_
      exact kw_iret hx hb hr hlocks I _ rfl h (kn_dec tX9_first 10 rfl)

end
