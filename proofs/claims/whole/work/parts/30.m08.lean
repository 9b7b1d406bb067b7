section
variable {p : Program} {l : Launch} {e : Env} {s : State} {m : MethodId} {args : Array Value} {below : List Frame} {meth : Method} {c : Code} {D : va_G} {tc : Nat → ClassId} {Z : (Nat → Nat) × (Nat → Nat)} {w0 : List CH}

/-! X9_sum -/
abbrev rmX9_sum : Room := { frames := 7, cells := 0, slots := 0, locals := 152 }
def PX9_sum_b43  (K4 : OV → Prop) (post : OV → Prop) (t0 : Int32) (v_m : OV) : Prop := (∀ x1 : Int32, x1 = ((v_m.1 31) + ((1 : Int32))) → (∀ v_m2 : OV, v_m2 = si v_m 31 x1 → (PX9_term v_m2 (fun v_m3 => (PX9_entry v_m3 t0 ((0 : Int32)) (fun v_m5 => K4 v_m5))))))
set_option maxRecDepth 100000 in
set_option maxHeartbeats 1000000 in
theorem wX9_sum_b43  {K4 : OV → Prop} {post : OV → Prop} {ad_m : Nat → Nat} (X : kn_X p s m args meth c cX9_sum 2 none RX9 kn_all D tc Z (kn_A w0 s.heap.size))   (hK4 : ∀ (H : Heap) (locs : List Loc) (ls : Array Slot) (v_m : OV), kn_I D tc (kn_A w0 s.heap.size) s.heap [(kModel, ad_m, v_m)] H locs → lv_has ls 2 [(0, .ref (ad_m 0))] → K4 v_m → W p l e rmX9_sum s m args below meth c H locs 0 0 (kn_Qv D tc w0 (fun (u : OV) => [(kModel, ad_m, u)]) (fun (u : OV) => post u) below args s 0 0) (F0 m 4 ls [])) : ∀ (H : Heap) (locs : List Loc) (ls : Array Slot) (t0 : Int32) (v_m : OV), kn_I D tc (kn_A w0 s.heap.size) s.heap [(kModel, ad_m, v_m)] H locs → lv_has ls 2 [(0, .ref (ad_m 0))] → PX9_sum_b43 K4 post t0 v_m → W p l e rmX9_sum s m args below meth c H locs 0 0 (kn_Qv D tc w0 (fun (u : OV) => [(kModel, ad_m, u)]) (fun (u : OV) => post u) below args s 0 0) (F0 m 43 ls [.int t0]) := by
  obtain ⟨S0, hr, hlocks, hK, hZ, hA⟩ := id X
  obtain ⟨hx, hb, hml, hown, hts⟩ := id S0
  intro H locs ls t0 v_m I hl h
  unfold PX9_sum_b43 at h
  refine lv_istore_n (lv' := [(1, .int _), (0, .ref (ad_m 0))]) hx hb (kn_dec tX9_sum 20 rfl) rfl hl (by decide) rfl (fun ls hl => ?_)
  refine lv_aload_n hx hb (kn_dec tX9_sum 21 rfl) rfl (lv_at hl 1 rfl) ?_
  refine lv_dup hx hb (kn_dec tX9_sum 22 rfl) rfl ?_
  refine kw_geti hx hb hts inX9 hown hK I 0 rfl rfl 31 (by decide) rfl (hts _ q4_231) (kn_dec tX9_sum 23 rfl) ?_
  refine lv_iconst (v := (1)) hx hb (kn_dec tX9_sum 24 rfl) (by decide) ?_
  refine lv_iadd hx hb (kn_dec tX9_sum 25 rfl) ?_
  refine lv_topi (fun x1 ex1 => ?_)
  have h := h x1 ex1
  refine kw_puti hx hb hts inX9 tyX9 tyX9_ok nmX9 hown hK I 0 rfl rfl 31 (by decide) rfl (hts _ q4_231) rfl rfl rfl (kn_dec tX9_sum 26 rfl) (fun v_m2 ev_m2 H locs I => ?_)
  have h := h v_m2 ev_m2
  have I : kn_I D tc (kn_A w0 s.heap.size) s.heap [(kModel, ad_m, _)] _ _ := I
  refine lv_aload_n hx hb (kn_dec tX9_sum 27 rfl) rfl (lv_at hl 1 rfl) ?_
  refine kw_callv (wc := [(kModel, ad_m, _)]) (wr := []) I hA [0] [] rfl rfl (by decide) (by decide) (kn_runV (As := []) S0 hK hZ hA I ((ctX9_term h).met _) (kn_cwV 0 hts q6_32 q6_34 q0_47 q1_10 q6_35 rfl rfl (by decide +kernel) ⟨(Nat.le_of_ble_eq_true rfl), (Nat.le_of_ble_eq_true rfl)⟩) [0] rfl (by decide) 0 rfl rfl rfl rfl hl.1 rfl (Nat.le_of_ble_eq_true rfl) (kn_dec tX9_sum 28 rfl) ⟨(Nat.le_of_ble_eq_true rfl), (Nat.le_of_ble_eq_true rfl)⟩) (fun u4 H locs h I => ?_)
  have I : kn_I D tc (kn_A w0 s.heap.size) s.heap [(kModel, ad_m, _)] _ _ := I
  refine lv_aload_n hx hb (kn_dec tX9_sum 29 rfl) rfl (lv_at hl 1 rfl) ?_
  refine lv_iload_n hx hb (kn_dec tX9_sum 30 rfl) rfl (lv_at hl 0 rfl) ?_
  refine lv_iconst (v := (0)) hx hb (kn_dec tX9_sum 31 rfl) (by decide) ?_
  refine kw_callv (wc := [(kModel, ad_m, _)]) (wr := []) I hA [0] [] rfl rfl (by decide) (by decide) (kn_runV (As := [.int _, .int _]) S0 hK hZ hA I ((ctX9_entry h).met _) (kn_cwV 2 hts q6_44 q6_46 q0_50 q1_10 q6_47 rfl rfl (by decide +kernel) ⟨(Nat.le_of_ble_eq_true rfl), (Nat.le_of_ble_eq_true rfl)⟩) [0] rfl (by decide) 0 rfl rfl rfl rfl hl.1 rfl (Nat.le_of_ble_eq_true rfl) (kn_dec tX9_sum 32 rfl) ⟨(Nat.le_of_ble_eq_true rfl), (Nat.le_of_ble_eq_true rfl)⟩) (fun u6 H locs h I => ?_)
  have I : kn_I D tc (kn_A w0 s.heap.size) s.heap [(kModel, ad_m, _)] _ _ := I
  refine lv_goto (tgt := 4) hx hb (kn_dec tX9_sum 33 rfl) (by decide) ?_
  exact hK4 _ _ _ _  I (lv_sub hl [1] rfl) h
def PX9_sum_b29  (K4 : OV → Prop) (post : OV → Prop) (v_m : OV) : Prop := (PX9_sign v_m (fun r1 => ((¬ r1 = ((43 : Int32)) → PX9_sum_b43 K4 post ((3 : Int32)) v_m) ∧ (r1 = ((43 : Int32)) → PX9_sum_b43 K4 post ((2 : Int32)) v_m))))
set_option maxRecDepth 100000 in
set_option maxHeartbeats 1000000 in
theorem wX9_sum_b29  {K4 : OV → Prop} {post : OV → Prop} {ad_m : Nat → Nat} (X : kn_X p s m args meth c cX9_sum 2 none RX9 kn_all D tc Z (kn_A w0 s.heap.size))   (hK4 : ∀ (H : Heap) (locs : List Loc) (ls : Array Slot) (v_m : OV), kn_I D tc (kn_A w0 s.heap.size) s.heap [(kModel, ad_m, v_m)] H locs → lv_has ls 2 [(0, .ref (ad_m 0))] → K4 v_m → W p l e rmX9_sum s m args below meth c H locs 0 0 (kn_Qv D tc w0 (fun (u : OV) => [(kModel, ad_m, u)]) (fun (u : OV) => post u) below args s 0 0) (F0 m 4 ls [])) : ∀ (H : Heap) (locs : List Loc) (ls : Array Slot) (v_m : OV), kn_I D tc (kn_A w0 s.heap.size) s.heap [(kModel, ad_m, v_m)] H locs → lv_has ls 2 [(0, .ref (ad_m 0))] → PX9_sum_b29 K4 post v_m → W p l e rmX9_sum s m args below meth c H locs 0 0 (kn_Qv D tc w0 (fun (u : OV) => [(kModel, ad_m, u)]) (fun (u : OV) => post u) below args s 0 0) (F0 m 29 ls []) := by
  obtain ⟨S0, hr, hlocks, hK, hZ, hA⟩ := id X
  obtain ⟨hx, hb, hml, hown, hts⟩ := id S0
  intro H locs ls v_m I hl h
  unfold PX9_sum_b29 at h
  refine lv_aload_n hx hb (kn_dec tX9_sum 13 rfl) rfl (lv_at hl 0 rfl) ?_
  refine kw_calli (wc := [(kModel, ad_m, _)]) (wr := []) I hA [0] [] rfl rfl (by decide) (by decide) (kn_runV (As := []) S0 hK hZ hA I ((ctX9_sign h).met _) (kn_cwV 0 hts q5_195 q5_197 q0_34 q1_10 q5_198 rfl rfl (by decide +kernel) ⟨(Nat.le_of_ble_eq_true rfl), (Nat.le_of_ble_eq_true rfl)⟩) [0] rfl (by decide) 0 rfl rfl rfl rfl hl.1 rfl (Nat.le_of_ble_eq_true rfl) (kn_dec tX9_sum 14 rfl) ⟨(Nat.le_of_ble_eq_true rfl), (Nat.le_of_ble_eq_true rfl)⟩) (fun r1 u2 H locs h I => ?_)
  have I : kn_I D tc (kn_A w0 s.heap.size) s.heap [(kModel, ad_m, _)] _ _ := I
  refine lv_bipush (v := (43)) hx hb (kn_dec tX9_sum 15 rfl) (by decide) ?_
  refine lv_icmp_ne (tgt := 42) hx hb (kn_dec tX9_sum 16 rfl) (by decide) (fun c3 => ?_) (fun c3 => ?_)
  · have h := h.1 c3
    refine lv_iconst (v := (3)) hx hb (kn_dec tX9_sum 19 rfl) (by decide) ?_
    exact wX9_sum_b43 X hK4 _ _ _ _ _  I (lv_sub hl [0] rfl) h
  · have h := h.2 c3
    refine lv_iconst (v := (2)) hx hb (kn_dec tX9_sum 17 rfl) (by decide) ?_
    refine lv_goto (tgt := 43) hx hb (kn_dec tX9_sum 18 rfl) (by decide) ?_
    exact wX9_sum_b43 X hK4 _ _ _ _ _  I (lv_sub hl [0] rfl) h
def PX9_sum_L4   (post : OV → Prop) : Nat → OV → Prop
  | 0, _ => False
  | n + 1, v_m => ((¬ (v_m.1 32) = ((0 : Int32)) → post v_m) ∧ ((v_m.1 32) = ((0 : Int32)) → (PX9_sign v_m (fun r2 => ((r2 = ((43 : Int32)) → PX9_sum_b29 (PX9_sum_L4 post n) post v_m) ∧ (¬ r2 = ((43 : Int32)) → (PX9_sign v_m (fun r5 => ((¬ r5 = ((45 : Int32)) → post v_m) ∧ (r5 = ((45 : Int32)) → PX9_sum_b29 (PX9_sum_L4 post n) post v_m))))))))))
set_option maxRecDepth 100000 in
set_option maxHeartbeats 1000000 in
theorem wX9_sum_L4   {post : OV → Prop} {ad_m : Nat → Nat} (X : kn_X p s m args meth c cX9_sum 2 none RX9 kn_all D tc Z (kn_A w0 s.heap.size))    : ∀ n : Nat, ∀ (H : Heap) (locs : List Loc) (ls : Array Slot) (v_m : OV), kn_I D tc (kn_A w0 s.heap.size) s.heap [(kModel, ad_m, v_m)] H locs → lv_has ls 2 [(0, .ref (ad_m 0))] → PX9_sum_L4 post n v_m → W p l e rmX9_sum s m args below meth c H locs 0 0 (kn_Qv D tc w0 (fun (u : OV) => [(kModel, ad_m, u)]) (fun (u : OV) => post u) below args s 0 0) (F0 m 4 ls []) := by
  obtain ⟨S0, hr, hlocks, hK, hZ, hA⟩ := id X
  obtain ⟨hx, hb, hml, hown, hts⟩ := id S0
  intro n
  induction n with
  | zero =>
    intro H locs ls v_m I hl h
    unfold PX9_sum_L4 at h
    exact h.elim
  | succ n ih =>
    intro H locs ls v_m I hl h
    unfold PX9_sum_L4 at h
    refine lv_aload_n hx hb (kn_dec tX9_sum 2 rfl) rfl (lv_at hl 0 rfl) ?_
    refine kw_geti hx hb hts inX9 hown hK I 0 rfl rfl 32 (by decide) rfl (hts _ q4_232) (kn_dec tX9_sum 3 rfl) ?_
    refine lv_if_ne (tgt := 67) hx hb (kn_dec tX9_sum 4 rfl) (by decide) (fun c1 => ?_) (fun c1 => ?_)
    · have h := h.1 c1
      exact kw_vret hx hb hr hlocks I _ rfl h (kn_dec tX9_sum 34 rfl)
    · have h := h.2 c1
      refine lv_aload_n hx hb (kn_dec tX9_sum 5 rfl) rfl (lv_at hl 0 rfl) ?_
      refine kw_calli (wc := [(kModel, ad_m, _)]) (wr := []) I hA [0] [] rfl rfl (by decide) (by decide) (kn_runV (As := []) S0 hK hZ hA I ((ctX9_sign h).met _) (kn_cwV 0 hts q5_195 q5_197 q0_34 q1_10 q5_198 rfl rfl (by decide +kernel) ⟨(Nat.le_of_ble_eq_true rfl), (Nat.le_of_ble_eq_true rfl)⟩) [0] rfl (by decide) 0 rfl rfl rfl rfl hl.1 rfl (Nat.le_of_ble_eq_true rfl) (kn_dec tX9_sum 6 rfl) ⟨(Nat.le_of_ble_eq_true rfl), (Nat.le_of_ble_eq_true rfl)⟩) (fun r2 u3 H locs h I => ?_)
      have I : kn_I D tc (kn_A w0 s.heap.size) s.heap [(kModel, ad_m, _)] _ _ := I
      refine lv_bipush (v := (43)) hx hb (kn_dec tX9_sum 7 rfl) (by decide) ?_
      refine lv_icmp_eq (tgt := 29) hx hb (kn_dec tX9_sum 8 rfl) (by decide) (fun c4 => ?_) (fun c4 => ?_)
      · have h := h.1 c4
        exact wX9_sum_b29 X ih _ _ _ _  I (lv_sub hl [0] rfl) h
      · have h := h.2 c4
        refine lv_aload_n hx hb (kn_dec tX9_sum 9 rfl) rfl (lv_at hl 0 rfl) ?_
        refine kw_calli (wc := [(kModel, ad_m, _)]) (wr := []) I hA [0] [] rfl rfl (by decide) (by decide) (kn_runV (As := []) S0 hK hZ hA I ((ctX9_sign h).met _) (kn_cwV 0 hts q5_195 q5_197 q0_34 q1_10 q5_198 rfl rfl (by decide +kernel) ⟨(Nat.le_of_ble_eq_true rfl), (Nat.le_of_ble_eq_true rfl)⟩) [0] rfl (by decide) 0 rfl rfl rfl rfl hl.1 rfl (Nat.le_of_ble_eq_true rfl) (kn_dec tX9_sum 10 rfl) ⟨(Nat.le_of_ble_eq_true rfl), (Nat.le_of_ble_eq_true rfl)⟩) (fun r5 u6 H locs h I => ?_)
        have I : kn_I D tc (kn_A w0 s.heap.size) s.heap [(kModel, ad_m, _)] _ _ := I
        refine lv_bipush (v := (45)) hx hb (kn_dec tX9_sum 11 rfl) (by decide) ?_
        refine lv_icmp_ne (tgt := 67) hx hb (kn_dec tX9_sum 12 rfl) (by decide) (fun c7 => ?_) (fun c7 => ?_)
        · have h := h.1 c7
          exact kw_vret hx hb hr hlocks I _ rfl h (kn_dec tX9_sum 34 rfl)
        · have h := h.2 c7
          exact wX9_sum_b29 X ih _ _ _ _  I (lv_sub hl [0] rfl) h
def PX9_sum  (v_m : OV) (post : OV → Prop) : Prop := (PX9_term v_m (fun v_m1 => (∃ n3 : Nat, PX9_sum_L4 post n3 v_m1)))
set_option maxRecDepth 100000 in
set_option maxHeartbeats 1000000 in
theorem ctX9_sum {l : Launch} {D : va_G} {tc : Nat → ClassId} {Z : (Nat → Nat) × (Nat → Nat)}  {ad_m : Nat → Nat} {v_m : OV}    {post : OV → Prop} (h : PX9_sum  v_m post) : CTv l D tc Z yX9_sum (Cond.code yX9_sum cX9_sum 2 none :: kn_all) rmX9_sum 0 0 [.ref (ad_m 0)] [(kModel, ad_m, v_m)] (fun (u : OV) => [(kModel, ad_m, u)]) (fun (u : OV) => post u) := by
  refine kn_ofv (cc := cX9_sum) (nL := 2) (ret := none) (lv := [(0, .ref (ad_m 0))]) (by decide) (Nat.le_of_ble_eq_true rfl) rfl (fun p e s m below meth c ls X I hl _ => ?_)
  obtain ⟨S0, hr, hlocks, hK, hZ, hA⟩ := id X
  obtain ⟨hx, hb, hml, hown, hts⟩ := id S0
  unfold PX9_sum at h
  refine lv_aload_n hx hb (kn_dec tX9_sum 0 rfl) rfl (lv_at hl 0 rfl) ?_
  refine kw_callv (wc := [(kModel, ad_m, _)]) (wr := []) I hA [0] [] rfl rfl (by decide) (by decide) (kn_runV (As := []) S0 hK hZ hA I ((ctX9_term h).met _) (kn_cwV 0 hts q6_32 q6_34 q0_47 q1_10 q6_35 rfl rfl (by decide +kernel) ⟨(Nat.le_of_ble_eq_true rfl), (Nat.le_of_ble_eq_true rfl)⟩) [0] rfl (by decide) 0 rfl rfl rfl rfl hl.1 rfl (Nat.le_of_ble_eq_true rfl) (kn_dec tX9_sum 1 rfl) ⟨(Nat.le_of_ble_eq_true rfl), (Nat.le_of_ble_eq_true rfl)⟩) (fun u2 H locs h I => ?_)
  have I : kn_I D tc (kn_A _ s.heap.size) s.heap [(kModel, ad_m, _)] _ _ := I
  obtain ⟨n3, h⟩ := h
  exact wX9_sum_L4 X n3 _ _ _ _  I (lv_sub hl [0] rfl) h

/-! X9_compared -/
abbrev rmX9_compared : Room := { frames := 8, cells := 0, slots := 0, locals := 173 }
def PX9_compared_b139   (post : OV → Prop) (t1 : Int32) (v_m : OV) : Prop := (PX9_entry v_m t1 ((0 : Int32)) (fun v_m1 => post v_m1))
set_option maxRecDepth 100000 in
set_option maxHeartbeats 1000000 in
theorem wX9_compared_b139   {post : OV → Prop} {ad_m : Nat → Nat} (X : kn_X p s m args meth c cX9_compared 3 none RX9 kn_all D tc Z (kn_A w0 s.heap.size))    : ∀ (H : Heap) (locs : List Loc) (ls : Array Slot) (t1 : Int32) (v_m : OV), kn_I D tc (kn_A w0 s.heap.size) s.heap [(kModel, ad_m, v_m)] H locs → lv_has ls 3 [] → PX9_compared_b139 post t1 v_m → W p l e rmX9_compared s m args below meth c H locs 0 0 (kn_Qv D tc w0 (fun (u : OV) => [(kModel, ad_m, u)]) (fun (u : OV) => post u) below args s 0 0) (F0 m 139 ls [.int t1, .ref (ad_m 0)]) := by
  obtain ⟨S0, hr, hlocks, hK, hZ, hA⟩ := id X
  obtain ⟨hx, hb, hml, hown, hts⟩ := id S0
  intro H locs ls t1 v_m I hl h
  unfold PX9_compared_b139 at h
  refine lv_iconst (v := (0)) hx hb (kn_dec tX9_compared 73 rfl) (by decide) ?_
  refine kw_callv (wc := [(kModel, ad_m, _)]) (wr := []) I hA [0] [] rfl rfl (by decide) (by decide) (kn_runV (As := [.int _, .int _]) S0 hK hZ hA I ((ctX9_entry h).met _) (kn_cwV 2 hts q6_44 q6_46 q0_50 q1_10 q6_47 rfl rfl (by decide +kernel) ⟨(Nat.le_of_ble_eq_true rfl), (Nat.le_of_ble_eq_true rfl)⟩) [0] rfl (by decide) 0 rfl rfl rfl rfl hl.1 rfl (Nat.le_of_ble_eq_true rfl) (kn_dec tX9_compared 74 rfl) ⟨(Nat.le_of_ble_eq_true rfl), (Nat.le_of_ble_eq_true rfl)⟩) (fun u2 H locs h I => ?_)
  have I : kn_I D tc (kn_A w0 s.heap.size) s.heap [(kModel, ad_m, _)] _ _ := I
  exact kw_vret hx hb hr hlocks I _ rfl h (kn_dec tX9_compared 75 rfl)
def PX9_compared_b90   (post : OV → Prop) (t1 : Int32) (t2 : Int32) (y1 : Int32) (y2 : Int32) (v_m : OV) : Prop := (∀ x1 : Int32, x1 = (t1 + t2) → (∀ v_m2 : OV, v_m2 = si v_m 31 x1 → (PX9_sum v_m2 (fun v_m3 => ((¬ y1 = ((61 : Int32)) → ((¬ y1 = ((60 : Int32)) → ((y2 = ((0 : Int32)) → PX9_compared_b139 post ((8 : Int32)) v_m3) ∧ (¬ y2 = ((0 : Int32)) → PX9_compared_b139 post ((7 : Int32)) v_m3))) ∧ (y1 = ((60 : Int32)) → ((y2 = ((0 : Int32)) → PX9_compared_b139 post ((4 : Int32)) v_m3) ∧ (¬ y2 = ((0 : Int32)) → PX9_compared_b139 post ((5 : Int32)) v_m3))))) ∧ (y1 = ((61 : Int32)) → PX9_compared_b139 post ((6 : Int32)) v_m3))))))
set_option maxRecDepth 100000 in
set_option maxHeartbeats 1000000 in
theorem wX9_compared_b90   {post : OV → Prop} {ad_m : Nat → Nat} (X : kn_X p s m args meth c cX9_compared 3 none RX9 kn_all D tc Z (kn_A w0 s.heap.size))    : ∀ (H : Heap) (locs : List Loc) (ls : Array Slot) (t1 : Int32) (t2 : Int32) (y1 : Int32) (y2 : Int32) (v_m : OV), (hz_t2 : t2 = 0 ∨ t2 = 1) → (hz_y2 : y2 = 0 ∨ y2 = 1) → kn_I D tc (kn_A w0 s.heap.size) s.heap [(kModel, ad_m, v_m)] H locs → lv_has ls 3 [(0, .ref (ad_m 0)), (1, .int y1), (2, .int y2)] → PX9_compared_b90 post t1 t2 y1 y2 v_m → W p l e rmX9_compared s m args below meth c H locs 0 0 (kn_Qv D tc w0 (fun (u : OV) => [(kModel, ad_m, u)]) (fun (u : OV) => post u) below args s 0 0) (F0 m 90 ls [.int t2, .int t1, .ref (ad_m 0)]) := by
  obtain ⟨S0, hr, hlocks, hK, hZ, hA⟩ := id X
  obtain ⟨hx, hb, hml, hown, hts⟩ := id S0
  intro H locs ls t1 t2 y1 y2 v_m hz_t2 hz_y2 I hl h
  unfold PX9_compared_b90 at h
  refine lv_iadd hx hb (kn_dec tX9_compared 49 rfl) ?_
  refine lv_topi (fun x1 ex1 => ?_)
  have h := h x1 ex1
  refine kw_puti hx hb hts inX9 tyX9 tyX9_ok nmX9 hown hK I 0 rfl rfl 31 (by decide) rfl (hts _ q4_231) rfl rfl rfl (kn_dec tX9_compared 50 rfl) (fun v_m2 ev_m2 H locs I => ?_)
  have h := h v_m2 ev_m2
  have I : kn_I D tc (kn_A w0 s.heap.size) s.heap [(kModel, ad_m, _)] _ _ := I
  refine lv_aload_n hx hb (kn_dec tX9_compared 51 rfl) rfl (lv_at hl 0 rfl) ?_
  refine kw_callv (wc := [(kModel, ad_m, _)]) (wr := []) I hA [0] [] rfl rfl (by decide) (by decide) (kn_runV (As := []) S0 hK hZ hA I ((ctX9_sum h).met _) (kn_cwV 0 hts q6_28 q6_30 q0_46 q1_10 q6_31 rfl rfl (by decide +kernel) ⟨(Nat.le_of_ble_eq_true rfl), (Nat.le_of_ble_eq_true rfl)⟩) [0] rfl (by decide) 0 rfl rfl rfl rfl hl.1 rfl (Nat.le_of_ble_eq_true rfl) (kn_dec tX9_compared 52 rfl) ⟨(Nat.le_of_ble_eq_true rfl), (Nat.le_of_ble_eq_true rfl)⟩) (fun u4 H locs h I => ?_)
  have I : kn_I D tc (kn_A w0 s.heap.size) s.heap [(kModel, ad_m, _)] _ _ := I
  refine lv_aload_n hx hb (kn_dec tX9_compared 53 rfl) rfl (lv_at hl 0 rfl) ?_
  refine lv_iload_n hx hb (kn_dec tX9_compared 54 rfl) rfl (lv_at hl 1 rfl) ?_
  refine lv_bipush (v := (61)) hx hb (kn_dec tX9_compared 55 rfl) (by decide) ?_
  refine lv_icmp_ne (tgt := 110) hx hb (kn_dec tX9_compared 56 rfl) (by decide) (fun c5 => ?_) (fun c5 => ?_)
  · have h := h.1 c5
    refine lv_iload_n hx hb (kn_dec tX9_compared 59 rfl) rfl (lv_at hl 1 rfl) ?_
    refine lv_bipush (v := (60)) hx hb (kn_dec tX9_compared 60 rfl) (by decide) ?_
    refine lv_icmp_ne (tgt := 128) hx hb (kn_dec tX9_compared 61 rfl) (by decide) (fun c6 => ?_) (fun c6 => ?_)
    · have h := h.1 c6
      refine lv_iload_n hx hb (kn_dec tX9_compared 68 rfl) rfl (lv_at hl 2 rfl) ?_
      refine lv_if_eq (tgt := 137) hx hb (kn_dec tX9_compared 69 rfl) (by decide) (fun c7 => ?_) (fun c7 => ?_)
      · have h := h.1 c7
        refine lv_bipush (v := (8)) hx hb (kn_dec tX9_compared 72 rfl) (by decide) ?_
        exact wX9_compared_b139 X _ _ _ _ _  I (lv_sub hl [] rfl) h
      · have h := h.2 c7
        refine lv_bipush (v := (7)) hx hb (kn_dec tX9_compared 70 rfl) (by decide) ?_
        refine lv_goto (tgt := 139) hx hb (kn_dec tX9_compared 71 rfl) (by decide) ?_
        exact wX9_compared_b139 X _ _ _ _ _  I (lv_sub hl [] rfl) h
    · have h := h.2 c6
      refine lv_iload_n hx hb (kn_dec tX9_compared 62 rfl) rfl (lv_at hl 2 rfl) ?_
      refine lv_if_eq (tgt := 124) hx hb (kn_dec tX9_compared 63 rfl) (by decide) (fun c8 => ?_) (fun c8 => ?_)
      · have h := h.1 c8
        refine lv_iconst (v := (4)) hx hb (kn_dec tX9_compared 66 rfl) (by decide) ?_
        refine lv_goto (tgt := 139) hx hb (kn_dec tX9_compared 67 rfl) (by decide) ?_
        exact wX9_compared_b139 X _ _ _ _ _  I (lv_sub hl [] rfl) h
      · have h := h.2 c8
        refine lv_iconst (v := (5)) hx hb (kn_dec tX9_compared 64 rfl) (by decide) ?_
        refine lv_goto (tgt := 139) hx hb (kn_dec tX9_compared 65 rfl) (by decide) ?_
        exact wX9_compared_b139 X _ _ _ _ _  I (lv_sub hl [] rfl) h
  · have h := h.2 c5
    refine lv_bipush (v := (6)) hx hb (kn_dec tX9_compared 57 rfl) (by decide) ?_
    refine lv_goto (tgt := 139) hx hb (kn_dec tX9_compared 58 rfl) (by decide) ?_
    exact wX9_compared_b139 X _ _ _ _ _  I (lv_sub hl [] rfl) h
def PX9_compared_b75   (post : OV → Prop) (t0 : Int32) (y1 : Int32) (v_m : OV) : Prop := ((t0 = ((0 : Int32)) → PX9_compared_b90 post (v_m.1 31) ((0 : Int32)) y1 t0 v_m) ∧ (¬ t0 = ((0 : Int32)) → PX9_compared_b90 post (v_m.1 31) ((1 : Int32)) y1 t0 v_m))
set_option maxRecDepth 100000 in
set_option maxHeartbeats 1000000 in
theorem wX9_compared_b75   {post : OV → Prop} {ad_m : Nat → Nat} (X : kn_X p s m args meth c cX9_compared 3 none RX9 kn_all D tc Z (kn_A w0 s.heap.size))    : ∀ (H : Heap) (locs : List Loc) (ls : Array Slot) (t0 : Int32) (y1 : Int32) (v_m : OV), (hz_t0 : t0 = 0 ∨ t0 = 1) → kn_I D tc (kn_A w0 s.heap.size) s.heap [(kModel, ad_m, v_m)] H locs → lv_has ls 3 [(0, .ref (ad_m 0)), (1, .int y1)] → PX9_compared_b75 post t0 y1 v_m → W p l e rmX9_compared s m args below meth c H locs 0 0 (kn_Qv D tc w0 (fun (u : OV) => [(kModel, ad_m, u)]) (fun (u : OV) => post u) below args s 0 0) (F0 m 75 ls [.int t0]) := by
  obtain ⟨S0, hr, hlocks, hK, hZ, hA⟩ := id X
  obtain ⟨hx, hb, hml, hown, hts⟩ := id S0
  intro H locs ls t0 y1 v_m hz_t0 I hl h
  unfold PX9_compared_b75 at h
  refine lv_istore_n (lv' := [(2, .int _), (0, .ref (ad_m 0)), (1, .int _)]) hx hb (kn_dec tX9_compared 40 rfl) rfl hl (by decide) rfl (fun ls hl => ?_)
  refine lv_aload_n hx hb (kn_dec tX9_compared 41 rfl) rfl (lv_at hl 1 rfl) ?_
  refine lv_dup hx hb (kn_dec tX9_compared 42 rfl) rfl ?_
  refine kw_geti hx hb hts inX9 hown hK I 0 rfl rfl 31 (by decide) rfl (hts _ q4_231) (kn_dec tX9_compared 43 rfl) ?_
  refine lv_iload_n hx hb (kn_dec tX9_compared 44 rfl) rfl (lv_at hl 0 rfl) ?_
  refine lv_if_eq (tgt := 89) hx hb (kn_dec tX9_compared 45 rfl) (by decide) (fun c1 => ?_) (fun c1 => ?_)
  · have h := h.1 c1
    refine lv_iconst (v := (0)) hx hb (kn_dec tX9_compared 48 rfl) (by decide) ?_
    exact wX9_compared_b90 X _ _ _ _ _ _ _ _ (Or.inl rfl) hz_t0 I (lv_sub hl [1, 2, 0] rfl) h
  · have h := h.2 c1
    refine lv_iconst (v := (1)) hx hb (kn_dec tX9_compared 46 rfl) (by decide) ?_
    refine lv_goto (tgt := 90) hx hb (kn_dec tX9_compared 47 rfl) (by decide) ?_
    exact wX9_compared_b90 X _ _ _ _ _ _ _ _ (Or.inr rfl) hz_t0 I (lv_sub hl [1, 2, 0] rfl) h
def PX9_compared_b37   (post : OV → Prop) (y1 : Int32) (v_m : OV) : Prop := (PX9_isCounted v_m (v_m.1 31) (fun v_m1 => (∀ x3 : Int32, x3 = ((v_m1.1 31) + ((1 : Int32))) → (∀ v_m4 : OV, v_m4 = si v_m1 31 x3 → ((y1 = ((61 : Int32)) → PX9_compared_b75 post ((0 : Int32)) y1 v_m4) ∧ (¬ y1 = ((61 : Int32)) → (PX9_sign v_m4 (fun r6 => ((¬ r6 = ((61 : Int32)) → PX9_compared_b75 post ((0 : Int32)) y1 v_m4) ∧ (r6 = ((61 : Int32)) → PX9_compared_b75 post ((1 : Int32)) y1 v_m4))))))))))
set_option maxRecDepth 100000 in
set_option maxHeartbeats 1000000 in
theorem wX9_compared_b37   {post : OV → Prop} {ad_m : Nat → Nat} (X : kn_X p s m args meth c cX9_compared 3 none RX9 kn_all D tc Z (kn_A w0 s.heap.size))    : ∀ (H : Heap) (locs : List Loc) (ls : Array Slot) (y1 : Int32) (v_m : OV), kn_I D tc (kn_A w0 s.heap.size) s.heap [(kModel, ad_m, v_m)] H locs → lv_has ls 3 [(0, .ref (ad_m 0)), (1, .int y1)] → PX9_compared_b37 post y1 v_m → W p l e rmX9_compared s m args below meth c H locs 0 0 (kn_Qv D tc w0 (fun (u : OV) => [(kModel, ad_m, u)]) (fun (u : OV) => post u) below args s 0 0) (F0 m 37 ls []) := by
  obtain ⟨S0, hr, hlocks, hK, hZ, hA⟩ := id X
  obtain ⟨hx, hb, hml, hown, hts⟩ := id S0
  intro H locs ls y1 v_m I hl h
  unfold PX9_compared_b37 at h
  refine lv_aload_n hx hb (kn_dec tX9_compared 20 rfl) rfl (lv_at hl 0 rfl) ?_
  refine lv_aload_n hx hb (kn_dec tX9_compared 21 rfl) rfl (lv_at hl 0 rfl) ?_
  refine kw_geti hx hb hts inX9 hown hK I 0 rfl rfl 31 (by decide) rfl (hts _ q4_231) (kn_dec tX9_compared 22 rfl) ?_
  refine kw_callv (wc := [(kModel, ad_m, _)]) (wr := []) I hA [0] [] rfl rfl (by decide) (by decide) (kn_runV (As := [.int _]) S0 hK hZ hA I ((ctX9_isCounted h).met _) (kn_cwV 1 hts q6_40 q6_42 q0_49 q1_10 q6_43 rfl rfl (by decide +kernel) ⟨(Nat.le_of_ble_eq_true rfl), (Nat.le_of_ble_eq_true rfl)⟩) [0] rfl (by decide) 0 rfl rfl rfl rfl hl.1 rfl (Nat.le_of_ble_eq_true rfl) (kn_dec tX9_compared 23 rfl) ⟨(Nat.le_of_ble_eq_true rfl), (Nat.le_of_ble_eq_true rfl)⟩) (fun u2 H locs h I => ?_)
  have I : kn_I D tc (kn_A w0 s.heap.size) s.heap [(kModel, ad_m, _)] _ _ := I
  refine lv_aload_n hx hb (kn_dec tX9_compared 24 rfl) rfl (lv_at hl 0 rfl) ?_
  refine lv_dup hx hb (kn_dec tX9_compared 25 rfl) rfl ?_
  refine kw_geti hx hb hts inX9 hown hK I 0 rfl rfl 31 (by decide) rfl (hts _ q4_231) (kn_dec tX9_compared 26 rfl) ?_
  refine lv_iconst (v := (1)) hx hb (kn_dec tX9_compared 27 rfl) (by decide) ?_
  refine lv_iadd hx hb (kn_dec tX9_compared 28 rfl) ?_
  refine lv_topi (fun x3 ex3 => ?_)
  have h := h x3 ex3
  refine kw_puti hx hb hts inX9 tyX9 tyX9_ok nmX9 hown hK I 0 rfl rfl 31 (by decide) rfl (hts _ q4_231) rfl rfl rfl (kn_dec tX9_compared 29 rfl) (fun v_m4 ev_m4 H locs I => ?_)
  have h := h v_m4 ev_m4
  have I : kn_I D tc (kn_A w0 s.heap.size) s.heap [(kModel, ad_m, _)] _ _ := I
  refine lv_iload_n hx hb (kn_dec tX9_compared 30 rfl) rfl (lv_at hl 1 rfl) ?_
  refine lv_bipush (v := (61)) hx hb (kn_dec tX9_compared 31 rfl) (by decide) ?_
  refine lv_icmp_eq (tgt := 74) hx hb (kn_dec tX9_compared 32 rfl) (by decide) (fun c5 => ?_) (fun c5 => ?_)
  · have h := h.1 c5
    refine lv_iconst (v := (0)) hx hb (kn_dec tX9_compared 39 rfl) (by decide) ?_
    exact wX9_compared_b75 X _ _ _ _ _ _ (Or.inl rfl) I (lv_sub hl [0, 1] rfl) h
  · have h := h.2 c5
    refine lv_aload_n hx hb (kn_dec tX9_compared 33 rfl) rfl (lv_at hl 0 rfl) ?_
    refine kw_calli (wc := [(kModel, ad_m, _)]) (wr := []) I hA [0] [] rfl rfl (by decide) (by decide) (kn_runV (As := []) S0 hK hZ hA I ((ctX9_sign h).met _) (kn_cwV 0 hts q5_195 q5_197 q0_34 q1_10 q5_198 rfl rfl (by decide +kernel) ⟨(Nat.le_of_ble_eq_true rfl), (Nat.le_of_ble_eq_true rfl)⟩) [0] rfl (by decide) 0 rfl rfl rfl rfl hl.1 rfl (Nat.le_of_ble_eq_true rfl) (kn_dec tX9_compared 34 rfl) ⟨(Nat.le_of_ble_eq_true rfl), (Nat.le_of_ble_eq_true rfl)⟩) (fun r6 u7 H locs h I => ?_)
    have I : kn_I D tc (kn_A w0 s.heap.size) s.heap [(kModel, ad_m, _)] _ _ := I
    refine lv_bipush (v := (61)) hx hb (kn_dec tX9_compared 35 rfl) (by decide) ?_
    refine lv_icmp_ne (tgt := 74) hx hb (kn_dec tX9_compared 36 rfl) (by decide) (fun c8 => ?_) (fun c8 => ?_)
    · have h := h.1 c8
      refine lv_iconst (v := (0)) hx hb (kn_dec tX9_compared 39 rfl) (by decide) ?_
      exact wX9_compared_b75 X _ _ _ _ _ _ (Or.inl rfl) I (lv_sub hl [0, 1] rfl) h
    · have h := h.2 c8
      refine lv_iconst (v := (1)) hx hb (kn_dec tX9_compared 37 rfl) (by decide) ?_
      refine lv_goto (tgt := 75) hx hb (kn_dec tX9_compared 38 rfl) (by decide) ?_
      exact wX9_compared_b75 X _ _ _ _ _ _ (Or.inr rfl) I (lv_sub hl [0, 1] rfl) h
def PX9_compared  (v_m : OV) (post : OV → Prop) : Prop := (PX9_sum v_m (fun v_m1 => (PX9_sign v_m1 (fun r3 => ((r3 = ((60 : Int32)) → PX9_compared_b37 post r3 v_m1) ∧ (¬ r3 = ((60 : Int32)) → ((r3 = ((61 : Int32)) → PX9_compared_b37 post r3 v_m1) ∧ (¬ r3 = ((61 : Int32)) → ((r3 = ((62 : Int32)) → PX9_compared_b37 post r3 v_m1) ∧ (¬ r3 = ((62 : Int32)) → (PX9_fails v_m1 ((0 : Int32)) (v_m1.1 31) (fun v_m8 => post v_m8))))))))))))
set_option maxRecDepth 100000 in
set_option maxHeartbeats 1000000 in
theorem ctX9_compared {l : Launch} {D : va_G} {tc : Nat → ClassId} {Z : (Nat → Nat) × (Nat → Nat)}  {ad_m : Nat → Nat} {v_m : OV}    {post : OV → Prop} (h : PX9_compared  v_m post) : CTv l D tc Z yX9_compared (Cond.code yX9_compared cX9_compared 3 none :: kn_all) rmX9_compared 0 0 [.ref (ad_m 0)] [(kModel, ad_m, v_m)] (fun (u : OV) => [(kModel, ad_m, u)]) (fun (u : OV) => post u) := by
  refine kn_ofv (cc := cX9_compared) (nL := 3) (ret := none) (lv := [(0, .ref (ad_m 0))]) (by decide) (Nat.le_of_ble_eq_true rfl) rfl (fun p e s m below meth c ls X I hl _ => ?_)
  obtain ⟨S0, hr, hlocks, hK, hZ, hA⟩ := id X
  obtain ⟨hx, hb, hml, hown, hts⟩ := id S0
  unfold PX9_compared at h
  refine lv_aload_n hx hb (kn_dec tX9_compared 0 rfl) rfl (lv_at hl 0 rfl) ?_
  refine kw_callv (wc := [(kModel, ad_m, _)]) (wr := []) I hA [0] [] rfl rfl (by decide) (by decide) (kn_runV (As := []) S0 hK hZ hA I ((ctX9_sum h).met _) (kn_cwV 0 hts q6_28 q6_30 q0_46 q1_10 q6_31 rfl rfl (by decide +kernel) ⟨(Nat.le_of_ble_eq_true rfl), (Nat.le_of_ble_eq_true rfl)⟩) [0] rfl (by decide) 0 rfl rfl rfl rfl hl.1 rfl (Nat.le_of_ble_eq_true rfl) (kn_dec tX9_compared 1 rfl) ⟨(Nat.le_of_ble_eq_true rfl), (Nat.le_of_ble_eq_true rfl)⟩) (fun u2 H locs h I => ?_)
  have I : kn_I D tc (kn_A _ s.heap.size) s.heap [(kModel, ad_m, _)] _ _ := I
  refine lv_aload_n hx hb (kn_dec tX9_compared 2 rfl) rfl (lv_at hl 0 rfl) ?_
  refine kw_calli (wc := [(kModel, ad_m, _)]) (wr := []) I hA [0] [] rfl rfl (by decide) (by decide) (kn_runV (As := []) S0 hK hZ hA I ((ctX9_sign h).met _) (kn_cwV 0 hts q5_195 q5_197 q0_34 q1_10 q5_198 rfl rfl (by decide +kernel) ⟨(Nat.le_of_ble_eq_true rfl), (Nat.le_of_ble_eq_true rfl)⟩) [0] rfl (by decide) 0 rfl rfl rfl rfl hl.1 rfl (Nat.le_of_ble_eq_true rfl) (kn_dec tX9_compared 3 rfl) ⟨(Nat.le_of_ble_eq_true rfl), (Nat.le_of_ble_eq_true rfl)⟩) (fun r3 u4 H locs h I => ?_)
  have I : kn_I D tc (kn_A _ s.heap.size) s.heap [(kModel, ad_m, _)] _ _ := I
  refine lv_istore_n (lv' := [(1, .int _), (0, .ref (ad_m 0))]) hx hb (kn_dec tX9_compared 4 rfl) rfl hl (by decide) rfl (fun ls hl => ?_)
  refine lv_iload_n hx hb (kn_dec tX9_compared 5 rfl) rfl (lv_at hl 0 rfl) ?_
  refine lv_bipush (v := (60)) hx hb (kn_dec tX9_compared 6 rfl) (by decide) ?_
  refine lv_icmp_eq (tgt := 37) hx hb (kn_dec tX9_compared 7 rfl) (by decide) (fun c5 => ?_) (fun c5 => ?_)
  · have h := h.1 c5
    exact wX9_compared_b37 X _ _ _ _ _  I (lv_sub hl [1, 0] rfl) h
  · have h := h.2 c5
    refine lv_iload_n hx hb (kn_dec tX9_compared 8 rfl) rfl (lv_at hl 0 rfl) ?_
    refine lv_bipush (v := (61)) hx hb (kn_dec tX9_compared 9 rfl) (by decide) ?_
    refine lv_icmp_eq (tgt := 37) hx hb (kn_dec tX9_compared 10 rfl) (by decide) (fun c6 => ?_) (fun c6 => ?_)
    · have h := h.1 c6
      exact wX9_compared_b37 X _ _ _ _ _  I (lv_sub hl [1, 0] rfl) h
    · have h := h.2 c6
      refine lv_iload_n hx hb (kn_dec tX9_compared 11 rfl) rfl (lv_at hl 0 rfl) ?_
      refine lv_bipush (v := (62)) hx hb (kn_dec tX9_compared 12 rfl) (by decide) ?_
      refine lv_icmp_eq (tgt := 37) hx hb (kn_dec tX9_compared 13 rfl) (by decide) (fun c7 => ?_) (fun c7 => ?_)
      · have h := h.1 c7
        exact wX9_compared_b37 X _ _ _ _ _  I (lv_sub hl [1, 0] rfl) h
      · have h := h.2 c7
        refine lv_aload_n hx hb (kn_dec tX9_compared 14 rfl) rfl (lv_at hl 1 rfl) ?_
        refine lv_iconst (v := (0)) hx hb (kn_dec tX9_compared 15 rfl) (by decide) ?_
        refine lv_aload_n hx hb (kn_dec tX9_compared 16 rfl) rfl (lv_at hl 1 rfl) ?_
        refine kw_geti hx hb hts inX9 hown hK I 0 rfl rfl 31 (by decide) rfl (hts _ q4_231) (kn_dec tX9_compared 17 rfl) ?_
        refine kw_callv (wc := [(kModel, ad_m, _)]) (wr := []) I hA [0] [] rfl rfl (by decide) (by decide) (kn_runV (As := [.int _, .int _]) S0 hK hZ hA I ((ctX9_fails h).met _) (kn_cwV 2 hts q5_214 q5_216 q0_36 q1_10 q5_217 rfl rfl (by decide +kernel) ⟨(Nat.le_of_ble_eq_true rfl), (Nat.le_of_ble_eq_true rfl)⟩) [0] rfl (by decide) 0 rfl rfl rfl rfl hl.1 rfl (Nat.le_of_ble_eq_true rfl) (kn_dec tX9_compared 18 rfl) ⟨(Nat.le_of_ble_eq_true rfl), (Nat.le_of_ble_eq_true rfl)⟩) (fun u9 H locs h I => ?_)
        have I : kn_I D tc (kn_A _ s.heap.size) s.heap [(kModel, ad_m, _)] _ _ := I
        exact kw_vret hx hb hr hlocks I _ rfl h (kn_dec tX9_compared 19 rfl)

/-! X9_fact -/
abbrev rmX9_fact : Room := { frames := 9, cells := 0, slots := 0, locals := 195 }
def PX9_fact  (v_m : OV) (post : Int32 → OV → Prop) : Prop := (PX9_blanks v_m (fun v_m1 => (PX9_stood v_m1 21 (fun r3 => ((r3 = ((0 : Int32)) → (PX9_sign v_m1 (fun r6 => ((¬ r6 = ((91 : Int32)) → (PX9_compared v_m1 (fun v_m9 => post ((1 : Int32)) v_m9))) ∧ (r6 = ((91 : Int32)) → (PX9_opens v_m1 ((12 : Int32)) (fun v_m11 => (∀ x13 : Int32, x13 = ((v_m11.1 31) + ((1 : Int32))) → (∀ v_m14 : OV, v_m14 = si v_m11 31 x13 → post ((0 : Int32)) v_m14))))))))) ∧ (¬ r3 = ((0 : Int32)) → (PX9_opens v_m1 ((9 : Int32)) (fun v_m15 => (∀ x17 : Int32, x17 = ((v_m15.1 31) + ((3 : Int32))) → (∀ v_m18 : OV, v_m18 = si v_m15 31 x17 → post ((0 : Int32)) v_m18))))))))))
set_option maxRecDepth 100000 in
set_option maxHeartbeats 1000000 in
theorem ctX9_fact {l : Launch} {D : va_G} {tc : Nat → ClassId} {Z : (Nat → Nat) × (Nat → Nat)}  {ad_m : Nat → Nat} {v_m : OV}    {post : Int32 → OV → Prop} (h : PX9_fact  v_m post) : CTi l D tc Z yX9_fact (Cond.code yX9_fact cX9_fact 1 (some .boolean) :: kn_all) rmX9_fact 0 0 [.ref (ad_m 0)] [(kModel, ad_m, v_m)] (fun (u : OV) => [(kModel, ad_m, u)]) (fun (r : Int32) (u : OV) => (r = 0 ∨ r = 1) ∧ post r u) := by
  refine kn_ofi (cc := cX9_fact) (nL := 1) (ret := (some .boolean)) (lv := [(0, .ref (ad_m 0))]) (by decide) (Nat.le_of_ble_eq_true rfl) rfl (fun p e s m below meth c ls X I hl _ => ?_)
  obtain ⟨S0, hr, hlocks, hK, hZ, hA⟩ := id X
  obtain ⟨hx, hb, hml, hown, hts⟩ := id S0
  unfold PX9_fact at h
  refine lv_aload_n hx hb (kn_dec tX9_fact 0 rfl) rfl (lv_at hl 0 rfl) ?_
  refine kw_callv (wc := [(kModel, ad_m, _)]) (wr := []) I hA [0] [] rfl rfl (by decide) (by decide) (kn_runV (As := []) S0 hK hZ hA I ((ctX9_blanks h).met _) (kn_cwV 0 hts q5_191 q5_193 q0_33 q1_10 q5_194 rfl rfl (by decide +kernel) ⟨(Nat.le_of_ble_eq_true rfl), (Nat.le_of_ble_eq_true rfl)⟩) [0] rfl (by decide) 0 rfl rfl rfl rfl hl.1 rfl (Nat.le_of_ble_eq_true rfl) (kn_dec tX9_fact 1 rfl) ⟨(Nat.le_of_ble_eq_true rfl), (Nat.le_of_ble_eq_true rfl)⟩) (fun u2 H locs h I => ?_)
  have I : kn_I D tc (kn_A _ s.heap.size) s.heap [(kModel, ad_m, _)] _ _ := I
  refine lv_aload_n hx hb (kn_dec tX9_fact 2 rfl) rfl (lv_at hl 0 rfl) ?_
  refine kw_ldcSw hx hb hown (hZ.1 21 _ rfl).1 (kn_dec tX9_fact 3 rfl) ?_
  refine kw_calli (wc := [(kModel, ad_m, _)]) (wr := []) I hA [0] [] rfl rfl (by decide) (by decide) (kn_runV (As := [.ref (Z.1 21)]) S0 hK hZ hA I ((ctX9_stood h).met _) (kn_cwV 1 hts q5_208 q5_210 q0_35 q1_10 q5_211 rfl rfl (by decide +kernel) ⟨(Nat.le_of_ble_eq_true rfl), (Nat.le_of_ble_eq_true rfl)⟩) [0] rfl (by decide) 0 rfl rfl rfl rfl hl.1 rfl (Nat.le_of_ble_eq_true rfl) (kn_dec tX9_fact 4 rfl) ⟨(Nat.le_of_ble_eq_true rfl), (Nat.le_of_ble_eq_true rfl)⟩) (fun r3 u4 H locs h I => ?_)
  obtain ⟨hz_r3, h⟩ := h
  have I : kn_I D tc (kn_A _ s.heap.size) s.heap [(kModel, ad_m, _)] _ _ := I
  refine lv_if_eq (tgt := 32) hx hb (kn_dec tX9_fact 5 rfl) (by decide) (fun c5 => ?_) (fun c5 => ?_)
  · have h := h.1 c5
    refine lv_aload_n hx hb (kn_dec tX9_fact 17 rfl) rfl (lv_at hl 0 rfl) ?_
    refine kw_calli (wc := [(kModel, ad_m, _)]) (wr := []) I hA [0] [] rfl rfl (by decide) (by decide) (kn_runV (As := []) S0 hK hZ hA I ((ctX9_sign h).met _) (kn_cwV 0 hts q5_195 q5_197 q0_34 q1_10 q5_198 rfl rfl (by decide +kernel) ⟨(Nat.le_of_ble_eq_true rfl), (Nat.le_of_ble_eq_true rfl)⟩) [0] rfl (by decide) 0 rfl rfl rfl rfl hl.1 rfl (Nat.le_of_ble_eq_true rfl) (kn_dec tX9_fact 18 rfl) ⟨(Nat.le_of_ble_eq_true rfl), (Nat.le_of_ble_eq_true rfl)⟩) (fun r6 u7 H locs h I => ?_)
    have I : kn_I D tc (kn_A _ s.heap.size) s.heap [(kModel, ad_m, _)] _ _ := I
    refine lv_bipush (v := (91)) hx hb (kn_dec tX9_fact 19 rfl) (by decide) ?_
    refine lv_icmp_ne (tgt := 59) hx hb (kn_dec tX9_fact 20 rfl) (by decide) (fun c8 => ?_) (fun c8 => ?_)
    · have h := h.1 c8
      refine lv_aload_n hx hb (kn_dec tX9_fact 32 rfl) rfl (lv_at hl 0 rfl) ?_
      refine kw_callv (wc := [(kModel, ad_m, _)]) (wr := []) I hA [0] [] rfl rfl (by decide) (by decide) (kn_runV (As := []) S0 hK hZ hA I ((ctX9_compared h).met _) (kn_cwV 0 hts q6_81 q6_83 q0_55 q1_10 q6_84 rfl rfl (by decide +kernel) ⟨(Nat.le_of_ble_eq_true rfl), (Nat.le_of_ble_eq_true rfl)⟩) [0] rfl (by decide) 0 rfl rfl rfl rfl hl.1 rfl (Nat.le_of_ble_eq_true rfl) (kn_dec tX9_fact 33 rfl) ⟨(Nat.le_of_ble_eq_true rfl), (Nat.le_of_ble_eq_true rfl)⟩) (fun u10 H locs h I => ?_)
      have I : kn_I D tc (kn_A _ s.heap.size) s.heap [(kModel, ad_m, _)] _ _ := I
      refine lv_iconst (v := (1)) hx hb (kn_dec tX9_fact 34 rfl) (by decide) ?_
      exact kw_zret hx hb hr (kn_nz (Or.inr rfl)) hlocks I _ rfl ⟨(Or.inr rfl), h⟩ (kn_dec tX9_fact 35 rfl)
    · have h := h.2 c8
      refine lv_aload_n hx hb (kn_dec tX9_fact 21 rfl) rfl (lv_at hl 0 rfl) ?_
      refine lv_bipush (v := (12)) hx hb (kn_dec tX9_fact 22 rfl) (by decide) ?_
      refine kw_callv (wc := [(kModel, ad_m, _)]) (wr := []) I hA [0] [] rfl rfl (by decide) (by decide) (kn_runV (As := [.int _]) S0 hK hZ hA I ((ctX9_opens h).met _) (kn_cwV 1 hts q6_77 q6_79 q0_54 q1_10 q6_80 rfl rfl (by decide +kernel) ⟨(Nat.le_of_ble_eq_true rfl), (Nat.le_of_ble_eq_true rfl)⟩) [0] rfl (by decide) 0 rfl rfl rfl rfl hl.1 rfl (Nat.le_of_ble_eq_true rfl) (kn_dec tX9_fact 23 rfl) ⟨(Nat.le_of_ble_eq_true rfl), (Nat.le_of_ble_eq_true rfl)⟩) (fun u12 H locs h I => ?_)
      have I : kn_I D tc (kn_A _ s.heap.size) s.heap [(kModel, ad_m, _)] _ _ := I
      refine lv_aload_n hx hb (kn_dec tX9_fact 24 rfl) rfl (lv_at hl 0 rfl) ?_
      refine lv_dup hx hb (kn_dec tX9_fact 25 rfl) rfl ?_
      refine kw_geti hx hb hts inX9 hown hK I 0 rfl rfl 31 (by decide) rfl (hts _ q4_231) (kn_dec tX9_fact 26 rfl) ?_
      refine lv_iconst (v := (1)) hx hb (kn_dec tX9_fact 27 rfl) (by decide) ?_
      refine lv_iadd hx hb (kn_dec tX9_fact 28 rfl) ?_
      refine lv_topi (fun x13 ex13 => ?_)
      have h := h x13 ex13
      refine kw_puti hx hb hts inX9 tyX9 tyX9_ok nmX9 hown hK I 0 rfl rfl 31 (by decide) rfl (hts _ q4_231) rfl rfl rfl (kn_dec tX9_fact 29 rfl) (fun v_m14 ev_m14 H locs I => ?_)
      have h := h v_m14 ev_m14
      have I : kn_I D tc (kn_A _ s.heap.size) s.heap [(kModel, ad_m, _)] _ _ := I
      refine lv_iconst (v := (0)) hx hb (kn_dec tX9_fact 30 rfl) (by decide) ?_
      exact kw_zret hx hb hr (kn_nz (Or.inl rfl)) hlocks I _ rfl ⟨(Or.inl rfl), h⟩ (kn_dec tX9_fact 31 rfl)
  · have h := h.2 c5
    refine lv_aload_n hx hb (kn_dec tX9_fact 6 rfl) rfl (lv_at hl 0 rfl) ?_
    refine lv_bipush (v := (9)) hx hb (kn_dec tX9_fact 7 rfl) (by decide) ?_
    refine kw_callv (wc := [(kModel, ad_m, _)]) (wr := []) I hA [0] [] rfl rfl (by decide) (by decide) (kn_runV (As := [.int _]) S0 hK hZ hA I ((ctX9_opens h).met _) (kn_cwV 1 hts q6_77 q6_79 q0_54 q1_10 q6_80 rfl rfl (by decide +kernel) ⟨(Nat.le_of_ble_eq_true rfl), (Nat.le_of_ble_eq_true rfl)⟩) [0] rfl (by decide) 0 rfl rfl rfl rfl hl.1 rfl (Nat.le_of_ble_eq_true rfl) (kn_dec tX9_fact 8 rfl) ⟨(Nat.le_of_ble_eq_true rfl), (Nat.le_of_ble_eq_true rfl)⟩) (fun u16 H locs h I => ?_)
    have I : kn_I D tc (kn_A _ s.heap.size) s.heap [(kModel, ad_m, _)] _ _ := I
    refine lv_aload_n hx hb (kn_dec tX9_fact 9 rfl) rfl (lv_at hl 0 rfl) ?_
    refine lv_dup hx hb (kn_dec tX9_fact 10 rfl) rfl ?_
    refine kw_geti hx hb hts inX9 hown hK I 0 rfl rfl 31 (by decide) rfl (hts _ q4_231) (kn_dec tX9_fact 11 rfl) ?_
    refine lv_iconst (v := (3)) hx hb (kn_dec tX9_fact 12 rfl) (by decide) ?_
    refine lv_iadd hx hb (kn_dec tX9_fact 13 rfl) ?_
    refine lv_topi (fun x17 ex17 => ?_)
    have h := h x17 ex17
    refine kw_puti hx hb hts inX9 tyX9 tyX9_ok nmX9 hown hK I 0 rfl rfl 31 (by decide) rfl (hts _ q4_231) rfl rfl rfl (kn_dec tX9_fact 14 rfl) (fun v_m18 ev_m18 H locs I => ?_)
    have h := h v_m18 ev_m18
    have I : kn_I D tc (kn_A _ s.heap.size) s.heap [(kModel, ad_m, _)] _ _ := I
    refine lv_iconst (v := (0)) hx hb (kn_dec tX9_fact 15 rfl) (by decide) ?_
    exact kw_zret hx hb hr (kn_nz (Or.inl rfl)) hlocks I _ rfl ⟨(Or.inl rfl), h⟩ (kn_dec tX9_fact 16 rfl)

/-! X9_test -/
abbrev rmX9_test : Room := { frames := 10, cells := 0, slots := 0, locals := 215 }
def PX9_test_b122  (K9 : Int32 → Int32 → OV → Prop) (post : OV → Prop) (t1 : Int32) (t2 : Int32) (y2 : Int32) (v_m : OV) : Prop := (∀ x1 : Int32, x1 = (t1 + t2) → (∀ v_m2 : OV, v_m2 = si v_m 31 x1 → K9 ((1 : Int32)) y2 v_m2))
set_option maxRecDepth 100000 in
set_option maxHeartbeats 1000000 in
theorem wX9_test_b122  {K9 : Int32 → Int32 → OV → Prop} {post : OV → Prop} {ad_m : Nat → Nat} (X : kn_X p s m args meth c cX9_test 5 none RX9 kn_all D tc Z (kn_A w0 s.heap.size))   (hK9 : ∀ (H : Heap) (locs : List Loc) (ls : Array Slot) (y1 : Int32) (y2 : Int32) (v_m : OV), (hz_y1 : y1 = 0 ∨ y1 = 1) → (hz_y2 : y2 = 0 ∨ y2 = 1) → kn_I D tc (kn_A w0 s.heap.size) s.heap [(kModel, ad_m, v_m)] H locs → lv_has ls 5 [(0, .ref (ad_m 0)), (1, .int y1), (2, .int y2)] → K9 y1 y2 v_m → W p l e rmX9_test s m args below meth c H locs 0 0 (kn_Qv D tc w0 (fun (u : OV) => [(kModel, ad_m, u)]) (fun (u : OV) => post u) below args s 0 0) (F0 m 9 ls [])) : ∀ (H : Heap) (locs : List Loc) (ls : Array Slot) (t1 : Int32) (t2 : Int32) (y2 : Int32) (v_m : OV), (hz_y2 : y2 = 0 ∨ y2 = 1) → kn_I D tc (kn_A w0 s.heap.size) s.heap [(kModel, ad_m, v_m)] H locs → lv_has ls 5 [(0, .ref (ad_m 0)), (2, .int y2)] → PX9_test_b122 K9 post t1 t2 y2 v_m → W p l e rmX9_test s m args below meth c H locs 0 0 (kn_Qv D tc w0 (fun (u : OV) => [(kModel, ad_m, u)]) (fun (u : OV) => post u) below args s 0 0) (F0 m 122 ls [.int t2, .int t1, .ref (ad_m 0)]) := by
  obtain ⟨S0, hr, hlocks, hK, hZ, hA⟩ := id X
  obtain ⟨hx, hb, hml, hown, hts⟩ := id S0
  intro H locs ls t1 t2 y2 v_m hz_y2 I hl h
  unfold PX9_test_b122 at h
  refine lv_iadd hx hb (kn_dec tX9_test_t1 2 rfl) ?_
  refine lv_topi (fun x1 ex1 => ?_)
  have h := h x1 ex1
  refine kw_puti hx hb hts inX9 tyX9 tyX9_ok nmX9 hown hK I 0 rfl rfl 31 (by decide) rfl (hts _ q4_231) rfl rfl rfl (kn_dec tX9_test_t1 3 rfl) (fun v_m2 ev_m2 H locs I => ?_)
  have h := h v_m2 ev_m2
  have I : kn_I D tc (kn_A w0 s.heap.size) s.heap [(kModel, ad_m, _)] _ _ := I
  refine lv_iconst (v := (1)) hx hb (kn_dec tX9_test_t1 4 rfl) (by decide) ?_
  refine lv_istore_n (lv' := [(1, .int _), (0, .ref (ad_m 0)), (2, .int _)]) hx hb (kn_dec tX9_test_t1 5 rfl) rfl hl (by decide) rfl (fun ls hl => ?_)
  refine lv_goto (tgt := 199) hx hb (kn_dec tX9_test_t1 6 rfl) (by decide) ?_
  refine lv_goto (tgt := 9) hx hb (kn_dec tX9_test_t1 44 rfl) (by decide) ?_
  exact hK9 _ _ _ _ _ _ (Or.inr rfl) hz_y2 I (lv_sub hl [1, 0, 2] rfl) h
def PX9_test_b105  (K9 : Int32 → Int32 → OV → Prop) (post : OV → Prop) (t1 : Int32) (y2 : Int32) (y3 : Int32) (v_m : OV) : Prop := (PX9_opens v_m t1 (fun v_m1 => ((y3 = ((0 : Int32)) → PX9_test_b122 K9 post (v_m1.1 31) ((2 : Int32)) y2 v_m1) ∧ (¬ y3 = ((0 : Int32)) → PX9_test_b122 K9 post (v_m1.1 31) ((3 : Int32)) y2 v_m1))))
set_option maxRecDepth 100000 in
set_option maxHeartbeats 1000000 in
theorem wX9_test_b105  {K9 : Int32 → Int32 → OV → Prop} {post : OV → Prop} {ad_m : Nat → Nat} (X : kn_X p s m args meth c cX9_test 5 none RX9 kn_all D tc Z (kn_A w0 s.heap.size))   (hK9 : ∀ (H : Heap) (locs : List Loc) (ls : Array Slot) (y1 : Int32) (y2 : Int32) (v_m : OV), (hz_y1 : y1 = 0 ∨ y1 = 1) → (hz_y2 : y2 = 0 ∨ y2 = 1) → kn_I D tc (kn_A w0 s.heap.size) s.heap [(kModel, ad_m, v_m)] H locs → lv_has ls 5 [(0, .ref (ad_m 0)), (1, .int y1), (2, .int y2)] → K9 y1 y2 v_m → W p l e rmX9_test s m args below meth c H locs 0 0 (kn_Qv D tc w0 (fun (u : OV) => [(kModel, ad_m, u)]) (fun (u : OV) => post u) below args s 0 0) (F0 m 9 ls [])) : ∀ (H : Heap) (locs : List Loc) (ls : Array Slot) (t1 : Int32) (y2 : Int32) (y3 : Int32) (v_m : OV), (hz_y2 : y2 = 0 ∨ y2 = 1) → (hz_y3 : y3 = 0 ∨ y3 = 1) → kn_I D tc (kn_A w0 s.heap.size) s.heap [(kModel, ad_m, v_m)] H locs → lv_has ls 5 [(0, .ref (ad_m 0)), (2, .int y2), (3, .int y3)] → PX9_test_b105 K9 post t1 y2 y3 v_m → W p l e rmX9_test s m args below meth c H locs 0 0 (kn_Qv D tc w0 (fun (u : OV) => [(kModel, ad_m, u)]) (fun (u : OV) => post u) below args s 0 0) (F0 m 105 ls [.int t1, .ref (ad_m 0)]) := by
  obtain ⟨S0, hr, hlocks, hK, hZ, hA⟩ := id X
  obtain ⟨hx, hb, hml, hown, hts⟩ := id S0
  intro H locs ls t1 y2 y3 v_m hz_y2 hz_y3 I hl h
  unfold PX9_test_b105 at h
  refine kw_callv (wc := [(kModel, ad_m, _)]) (wr := []) I hA [0] [] rfl rfl (by decide) (by decide) (kn_runV (As := [.int _]) S0 hK hZ hA I ((ctX9_opens h).met _) (kn_cwV 1 hts q6_77 q6_79 q0_54 q1_10 q6_80 rfl rfl (by decide +kernel) ⟨(Nat.le_of_ble_eq_true rfl), (Nat.le_of_ble_eq_true rfl)⟩) [0] rfl (by decide) 0 rfl rfl rfl rfl hl.1 rfl (Nat.le_of_ble_eq_true rfl) (kn_dec tX9_test_t0 53 rfl) ⟨(Nat.le_of_ble_eq_true rfl), (Nat.le_of_ble_eq_true rfl)⟩) (fun u2 H locs h I => ?_)
  have I : kn_I D tc (kn_A w0 s.heap.size) s.heap [(kModel, ad_m, _)] _ _ := I
  refine lv_aload_n hx hb (kn_dec tX9_test_t0 54 rfl) rfl (lv_at hl 0 rfl) ?_
  refine lv_dup hx hb (kn_dec tX9_test_t0 55 rfl) rfl ?_
  refine kw_geti hx hb hts inX9 hown hK I 0 rfl rfl 31 (by decide) rfl (hts _ q4_231) (kn_dec tX9_test_t0 56 rfl) ?_
  refine lv_iload_n hx hb (kn_dec tX9_test_t0 57 rfl) rfl (lv_at hl 2 rfl) ?_
  refine lv_if_eq (tgt := 121) hx hb (kn_dec tX9_test_t0 58 rfl) (by decide) (fun c3 => ?_) (fun c3 => ?_)
  · have h := h.1 c3
    refine lv_iconst (v := (2)) hx hb (kn_dec tX9_test_t1 1 rfl) (by decide) ?_
    exact wX9_test_b122 X hK9 _ _ _ _ _ _ _ hz_y2 I (lv_sub hl [0, 1] rfl) h
  · have h := h.2 c3
    refine lv_iconst (v := (3)) hx hb (kn_dec tX9_test_t0 59 rfl) (by decide) ?_
    refine lv_goto (tgt := 122) hx hb (kn_dec tX9_test_t1 0 rfl) (by decide) ?_
    exact wX9_test_b122 X hK9 _ _ _ _ _ _ _ hz_y2 I (lv_sub hl [0, 1] rfl) h
def PX9_test_b93  (K9 : Int32 → Int32 → OV → Prop) (post : OV → Prop) (y2 : Int32) (y3 : Int32) (v_m : OV) : Prop := ((y3 = ((0 : Int32)) → PX9_test_b105 K9 post ((11 : Int32)) y2 y3 v_m) ∧ (¬ y3 = ((0 : Int32)) → PX9_test_b105 K9 post ((10 : Int32)) y2 y3 v_m))
set_option maxRecDepth 100000 in
set_option maxHeartbeats 1000000 in
theorem wX9_test_b93  {K9 : Int32 → Int32 → OV → Prop} {post : OV → Prop} {ad_m : Nat → Nat} (X : kn_X p s m args meth c cX9_test 5 none RX9 kn_all D tc Z (kn_A w0 s.heap.size))   (hK9 : ∀ (H : Heap) (locs : List Loc) (ls : Array Slot) (y1 : Int32) (y2 : Int32) (v_m : OV), (hz_y1 : y1 = 0 ∨ y1 = 1) → (hz_y2 : y2 = 0 ∨ y2 = 1) → kn_I D tc (kn_A w0 s.heap.size) s.heap [(kModel, ad_m, v_m)] H locs → lv_has ls 5 [(0, .ref (ad_m 0)), (1, .int y1), (2, .int y2)] → K9 y1 y2 v_m → W p l e rmX9_test s m args below meth c H locs 0 0 (kn_Qv D tc w0 (fun (u : OV) => [(kModel, ad_m, u)]) (fun (u : OV) => post u) below args s 0 0) (F0 m 9 ls [])) : ∀ (H : Heap) (locs : List Loc) (ls : Array Slot) (y2 : Int32) (y3 : Int32) (v_m : OV), (hz_y2 : y2 = 0 ∨ y2 = 1) → (hz_y3 : y3 = 0 ∨ y3 = 1) → kn_I D tc (kn_A w0 s.heap.size) s.heap [(kModel, ad_m, v_m)] H locs → lv_has ls 5 [(0, .ref (ad_m 0)), (2, .int y2), (3, .int y3)] → PX9_test_b93 K9 post y2 y3 v_m → W p l e rmX9_test s m args below meth c H locs 0 0 (kn_Qv D tc w0 (fun (u : OV) => [(kModel, ad_m, u)]) (fun (u : OV) => post u) below args s 0 0) (F0 m 93 ls []) := by
  obtain ⟨S0, hr, hlocks, hK, hZ, hA⟩ := id X
  obtain ⟨hx, hb, hml, hown, hts⟩ := id S0
  intro H locs ls y2 y3 v_m hz_y2 hz_y3 I hl h
  unfold PX9_test_b93 at h
  refine lv_aload_n hx hb (kn_dec tX9_test_t0 47 rfl) rfl (lv_at hl 0 rfl) ?_
  refine lv_iload_n hx hb (kn_dec tX9_test_t0 48 rfl) rfl (lv_at hl 2 rfl) ?_
  refine lv_if_eq (tgt := 103) hx hb (kn_dec tX9_test_t0 49 rfl) (by decide) (fun c1 => ?_) (fun c1 => ?_)
  · have h := h.1 c1
    refine lv_bipush (v := (11)) hx hb (kn_dec tX9_test_t0 52 rfl) (by decide) ?_
    exact wX9_test_b105 X hK9 _ _ _ _ _ _ _ hz_y2 hz_y3 I (lv_sub hl [0, 1, 2] rfl) h
  · have h := h.2 c1
    refine lv_bipush (v := (10)) hx hb (kn_dec tX9_test_t0 50 rfl) (by decide) ?_
    refine lv_goto (tgt := 105) hx hb (kn_dec tX9_test_t0 51 rfl) (by decide) ?_
    exact wX9_test_b105 X hK9 _ _ _ _ _ _ _ hz_y2 hz_y3 I (lv_sub hl [0, 1, 2] rfl) h
def PX9_test_b82  (K9 : Int32 → Int32 → OV → Prop) (post : OV → Prop) (y2 : Int32) (y3 : Int32) (y4 : Int32) (v_m : OV) : Prop := ((y4 = ((0 : Int32)) → PX9_test_b93 K9 post y2 y3 v_m) ∧ (¬ y4 = ((0 : Int32)) → (PX9_answers v_m ((11 : Int32)) (fun v_m2 => PX9_test_b93 K9 post y2 y3 v_m2))))
set_option maxRecDepth 100000 in
set_option maxHeartbeats 1000000 in
theorem wX9_test_b82  {K9 : Int32 → Int32 → OV → Prop} {post : OV → Prop} {ad_m : Nat → Nat} (X : kn_X p s m args meth c cX9_test 5 none RX9 kn_all D tc Z (kn_A w0 s.heap.size))   (hK9 : ∀ (H : Heap) (locs : List Loc) (ls : Array Slot) (y1 : Int32) (y2 : Int32) (v_m : OV), (hz_y1 : y1 = 0 ∨ y1 = 1) → (hz_y2 : y2 = 0 ∨ y2 = 1) → kn_I D tc (kn_A w0 s.heap.size) s.heap [(kModel, ad_m, v_m)] H locs → lv_has ls 5 [(0, .ref (ad_m 0)), (1, .int y1), (2, .int y2)] → K9 y1 y2 v_m → W p l e rmX9_test s m args below meth c H locs 0 0 (kn_Qv D tc w0 (fun (u : OV) => [(kModel, ad_m, u)]) (fun (u : OV) => post u) below args s 0 0) (F0 m 9 ls [])) : ∀ (H : Heap) (locs : List Loc) (ls : Array Slot) (y2 : Int32) (y3 : Int32) (y4 : Int32) (v_m : OV), (hz_y2 : y2 = 0 ∨ y2 = 1) → (hz_y3 : y3 = 0 ∨ y3 = 1) → (hz_y4 : y4 = 0 ∨ y4 = 1) → kn_I D tc (kn_A w0 s.heap.size) s.heap [(kModel, ad_m, v_m)] H locs → lv_has ls 5 [(0, .ref (ad_m 0)), (2, .int y2), (3, .int y3), (4, .int y4)] → PX9_test_b82 K9 post y2 y3 y4 v_m → W p l e rmX9_test s m args below meth c H locs 0 0 (kn_Qv D tc w0 (fun (u : OV) => [(kModel, ad_m, u)]) (fun (u : OV) => post u) below args s 0 0) (F0 m 82 ls []) := by
  obtain ⟨S0, hr, hlocks, hK, hZ, hA⟩ := id X
  obtain ⟨hx, hb, hml, hown, hts⟩ := id S0
  intro H locs ls y2 y3 y4 v_m hz_y2 hz_y3 hz_y4 I hl h
  unfold PX9_test_b82 at h
  refine lv_iload hx hb (kn_dec tX9_test_t0 42 rfl) (lv_at hl 3 rfl) ?_
  refine lv_if_eq (tgt := 93) hx hb (kn_dec tX9_test_t0 43 rfl) (by decide) (fun c1 => ?_) (fun c1 => ?_)
  · have h := h.1 c1
    exact wX9_test_b93 X hK9 _ _ _ _ _ _ hz_y2 hz_y3 I (lv_sub hl [0, 1, 2] rfl) h
  · have h := h.2 c1
    refine lv_aload_n hx hb (kn_dec tX9_test_t0 44 rfl) rfl (lv_at hl 0 rfl) ?_
    refine lv_bipush (v := (11)) hx hb (kn_dec tX9_test_t0 45 rfl) (by decide) ?_
    refine kw_callv (wc := [(kModel, ad_m, _)]) (wr := []) I hA [0] [] rfl rfl (by decide) (by decide) (kn_runV (As := [.int _]) S0 hK hZ hA I ((ctX9_answers h).met _) (kn_cwV 1 hts q6_85 q6_87 q0_56 q1_10 q6_88 rfl rfl (by decide +kernel) ⟨(Nat.le_of_ble_eq_true rfl), (Nat.le_of_ble_eq_true rfl)⟩) [0] rfl (by decide) 0 rfl rfl rfl rfl hl.1 rfl (Nat.le_of_ble_eq_true rfl) (kn_dec tX9_test_t0 46 rfl) ⟨(Nat.le_of_ble_eq_true rfl), (Nat.le_of_ble_eq_true rfl)⟩) (fun u3 H locs h I => ?_)
    have I : kn_I D tc (kn_A w0 s.heap.size) s.heap [(kModel, ad_m, _)] _ _ := I
    exact wX9_test_b93 X hK9 _ _ _ _ _ _ hz_y2 hz_y3 I (lv_sub hl [0, 1, 2] rfl) h
def PX9_test_b164  (K9 : Int32 → Int32 → OV → Prop) (post : OV → Prop) (y1 : Int32) (y2 : Int32) (v_m : OV) : Prop := (∀ x1 : Int32, x1 = ((v_m.1 31) + ((1 : Int32))) → (∀ v_m2 : OV, v_m2 = si v_m 31 x1 → (∀ x3 : Int32, x3 = ((v_m2.1 38) - ((1 : Int32))) → (∀ v_m4 : OV, v_m4 = si v_m2 38 x3 → (∀ x5 : Int32, x5 = ((v_m4.1 36) - ((1 : Int32))) → (∀ v_m6 : OV, v_m6 = si v_m4 36 x5 → K9 y1 y2 v_m6))))))
set_option maxRecDepth 100000 in
set_option maxHeartbeats 1000000 in
theorem wX9_test_b164  {K9 : Int32 → Int32 → OV → Prop} {post : OV → Prop} {ad_m : Nat → Nat} (X : kn_X p s m args meth c cX9_test 5 none RX9 kn_all D tc Z (kn_A w0 s.heap.size))   (hK9 : ∀ (H : Heap) (locs : List Loc) (ls : Array Slot) (y1 : Int32) (y2 : Int32) (v_m : OV), (hz_y1 : y1 = 0 ∨ y1 = 1) → (hz_y2 : y2 = 0 ∨ y2 = 1) → kn_I D tc (kn_A w0 s.heap.size) s.heap [(kModel, ad_m, v_m)] H locs → lv_has ls 5 [(0, .ref (ad_m 0)), (1, .int y1), (2, .int y2)] → K9 y1 y2 v_m → W p l e rmX9_test s m args below meth c H locs 0 0 (kn_Qv D tc w0 (fun (u : OV) => [(kModel, ad_m, u)]) (fun (u : OV) => post u) below args s 0 0) (F0 m 9 ls [])) : ∀ (H : Heap) (locs : List Loc) (ls : Array Slot) (y1 : Int32) (y2 : Int32) (v_m : OV), (hz_y1 : y1 = 0 ∨ y1 = 1) → (hz_y2 : y2 = 0 ∨ y2 = 1) → kn_I D tc (kn_A w0 s.heap.size) s.heap [(kModel, ad_m, v_m)] H locs → lv_has ls 5 [(0, .ref (ad_m 0)), (1, .int y1), (2, .int y2)] → PX9_test_b164 K9 post y1 y2 v_m → W p l e rmX9_test s m args below meth c H locs 0 0 (kn_Qv D tc w0 (fun (u : OV) => [(kModel, ad_m, u)]) (fun (u : OV) => post u) below args s 0 0) (F0 m 164 ls []) := by
  obtain ⟨S0, hr, hlocks, hK, hZ, hA⟩ := id X
  obtain ⟨hx, hb, hml, hown, hts⟩ := id S0
  intro H locs ls y1 y2 v_m hz_y1 hz_y2 I hl h
  unfold PX9_test_b164 at h
  refine lv_aload_n hx hb (kn_dec tX9_test_t1 23 rfl) rfl (lv_at hl 0 rfl) ?_
  refine lv_dup hx hb (kn_dec tX9_test_t1 24 rfl) rfl ?_
  refine kw_geti hx hb hts inX9 hown hK I 0 rfl rfl 31 (by decide) rfl (hts _ q4_231) (kn_dec tX9_test_t1 25 rfl) ?_
  refine lv_iconst (v := (1)) hx hb (kn_dec tX9_test_t1 26 rfl) (by decide) ?_
  refine lv_iadd hx hb (kn_dec tX9_test_t1 27 rfl) ?_
  refine lv_topi (fun x1 ex1 => ?_)
  have h := h x1 ex1
  refine kw_puti hx hb hts inX9 tyX9 tyX9_ok nmX9 hown hK I 0 rfl rfl 31 (by decide) rfl (hts _ q4_231) rfl rfl rfl (kn_dec tX9_test_t1 28 rfl) (fun v_m2 ev_m2 H locs I => ?_)
  have h := h v_m2 ev_m2
  have I : kn_I D tc (kn_A w0 s.heap.size) s.heap [(kModel, ad_m, _)] _ _ := I
  refine lv_aload_n hx hb (kn_dec tX9_test_t1 29 rfl) rfl (lv_at hl 0 rfl) ?_
  refine lv_dup hx hb (kn_dec tX9_test_t1 30 rfl) rfl ?_
  refine kw_geti hx hb hts inX9 hown hK I 0 rfl rfl 38 (by decide) rfl (hts _ q4_238) (kn_dec tX9_test_t1 31 rfl) ?_
  refine lv_iconst (v := (1)) hx hb (kn_dec tX9_test_t1 32 rfl) (by decide) ?_
  refine lv_isub hx hb (kn_dec tX9_test_t1 33 rfl) ?_
  refine lv_topi (fun x3 ex3 => ?_)
  have h := h x3 ex3
  refine kw_puti hx hb hts inX9 tyX9 tyX9_ok nmX9 hown hK I 0 rfl rfl 38 (by decide) rfl (hts _ q4_238) rfl rfl rfl (kn_dec tX9_test_t1 34 rfl) (fun v_m4 ev_m4 H locs I => ?_)
  have h := h v_m4 ev_m4
  have I : kn_I D tc (kn_A w0 s.heap.size) s.heap [(kModel, ad_m, _)] _ _ := I
  refine lv_aload_n hx hb (kn_dec tX9_test_t1 35 rfl) rfl (lv_at hl 0 rfl) ?_
  refine lv_dup hx hb (kn_dec tX9_test_t1 36 rfl) rfl ?_
  refine kw_geti hx hb hts inX9 hown hK I 0 rfl rfl 36 (by decide) rfl (hts _ q4_236) (kn_dec tX9_test_t1 37 rfl) ?_
  refine lv_iconst (v := (1)) hx hb (kn_dec tX9_test_t1 38 rfl) (by decide) ?_
  refine lv_isub hx hb (kn_dec tX9_test_t1 39 rfl) ?_
  refine lv_topi (fun x5 ex5 => ?_)
  have h := h x5 ex5
  refine kw_puti hx hb hts inX9 tyX9 tyX9_ok nmX9 hown hK I 0 rfl rfl 36 (by decide) rfl (hts _ q4_236) rfl rfl rfl (kn_dec tX9_test_t1 40 rfl) (fun v_m6 ev_m6 H locs I => ?_)
  have h := h v_m6 ev_m6
  have I : kn_I D tc (kn_A w0 s.heap.size) s.heap [(kModel, ad_m, _)] _ _ := I
  refine lv_goto (tgt := 199) hx hb (kn_dec tX9_test_t1 41 rfl) (by decide) ?_
  refine lv_goto (tgt := 9) hx hb (kn_dec tX9_test_t1 44 rfl) (by decide) ?_
  exact hK9 _ _ _ _ _ _ hz_y1 hz_y2 I (lv_sub hl [0, 1, 2] rfl) h
def PX9_test_L9   (post : OV → Prop) : Nat → Int32 → Int32 → OV → Prop
  | 0, _, _, _ => False
  | n + 1, y1, y2, v_m => ((y2 = ((0 : Int32)) → post v_m) ∧ (¬ y2 = ((0 : Int32)) → ((¬ (v_m.1 32) = ((0 : Int32)) → post v_m) ∧ ((v_m.1 32) = ((0 : Int32)) → ((y1 = ((0 : Int32)) → (PX9_answers v_m ((9 : Int32)) (fun v_m4 => (PX9_blanks v_m4 (fun v_m6 => (PX9_stood v_m6 22 (fun r8 => (PX9_stood v_m6 23 (fun r10 => (PX9_answers v_m6 ((10 : Int32)) (fun v_m12 => ((¬ r8 = ((0 : Int32)) → PX9_test_b82 (PX9_test_L9 post n) post y2 r8 r10 v_m12) ∧ (r8 = ((0 : Int32)) → ((r10 = ((0 : Int32)) → (PX9_answers v_m12 ((11 : Int32)) (fun v_m16 => (PX9_top v_m16 (fun r18 => ((¬ r18 = ((12 : Int32)) → PX9_test_L9 post n y1 ((0 : Int32)) v_m16) ∧ (r18 = ((12 : Int32)) → (PX9_sign v_m16 (fun r21 => ((r21 = ((93 : Int32)) → PX9_test_b164 (PX9_test_L9 post n) post y1 y2 v_m16) ∧ (¬ r21 = ((93 : Int32)) → (PX9_fails v_m16 ((0 : Int32)) (v_m16.1 31) (fun v_m24 => PX9_test_b164 (PX9_test_L9 post n) post y1 y2 v_m24))))))))))))) ∧ (¬ r10 = ((0 : Int32)) → PX9_test_b82 (PX9_test_L9 post n) post y2 r8 r10 v_m12))))))))))))))) ∧ (¬ y1 = ((0 : Int32)) → (PX9_fact v_m (fun r27 v_m26 => ((¬ r27 = ((0 : Int32)) → PX9_test_L9 post n ((0 : Int32)) y2 v_m26) ∧ (r27 = ((0 : Int32)) → PX9_test_L9 post n ((1 : Int32)) y2 v_m26))))))))))
set_option maxRecDepth 100000 in
set_option maxHeartbeats 1000000 in
theorem wX9_test_L9   {post : OV → Prop} {ad_m : Nat → Nat} (X : kn_X p s m args meth c cX9_test 5 none RX9 kn_all D tc Z (kn_A w0 s.heap.size))    : ∀ n : Nat, ∀ (H : Heap) (locs : List Loc) (ls : Array Slot) (y1 : Int32) (y2 : Int32) (v_m : OV), (hz_y1 : y1 = 0 ∨ y1 = 1) → (hz_y2 : y2 = 0 ∨ y2 = 1) → kn_I D tc (kn_A w0 s.heap.size) s.heap [(kModel, ad_m, v_m)] H locs → lv_has ls 5 [(0, .ref (ad_m 0)), (1, .int y1), (2, .int y2)] → PX9_test_L9 post n y1 y2 v_m → W p l e rmX9_test s m args below meth c H locs 0 0 (kn_Qv D tc w0 (fun (u : OV) => [(kModel, ad_m, u)]) (fun (u : OV) => post u) below args s 0 0) (F0 m 9 ls []) := by
  obtain ⟨S0, hr, hlocks, hK, hZ, hA⟩ := id X
  obtain ⟨hx, hb, hml, hown, hts⟩ := id S0
  intro n
  induction n with
  | zero =>
    intro H locs ls y1 y2 v_m hz_y1 hz_y2 I hl h
    unfold PX9_test_L9 at h
    exact h.elim
  | succ n ih =>
    intro H locs ls y1 y2 v_m hz_y1 hz_y2 I hl h
    unfold PX9_test_L9 at h
    refine lv_iload_n hx hb (kn_dec tX9_test_t0 7 rfl) rfl (lv_at hl 2 rfl) ?_
    refine lv_if_eq (tgt := 202) hx hb (kn_dec tX9_test_t0 8 rfl) (by decide) (fun c1 => ?_) (fun c1 => ?_)
    · have h := h.1 c1
      exact kw_vret hx hb hr hlocks I _ rfl h (kn_dec tX9_test_t1 45 rfl)
    · have h := h.2 c1
      refine lv_aload_n hx hb (kn_dec tX9_test_t0 9 rfl) rfl (lv_at hl 0 rfl) ?_
      refine kw_geti hx hb hts inX9 hown hK I 0 rfl rfl 32 (by decide) rfl (hts _ q4_232) (kn_dec tX9_test_t0 10 rfl) ?_
      refine lv_if_ne (tgt := 202) hx hb (kn_dec tX9_test_t0 11 rfl) (by decide) (fun c2 => ?_) (fun c2 => ?_)
      · have h := h.1 c2
        exact kw_vret hx hb hr hlocks I _ rfl h (kn_dec tX9_test_t1 45 rfl)
      · have h := h.2 c2
        refine lv_iload_n hx hb (kn_dec tX9_test_t0 12 rfl) rfl (lv_at hl 1 rfl) ?_
        refine lv_if_eq (tgt := 40) hx hb (kn_dec tX9_test_t0 13 rfl) (by decide) (fun c3 => ?_) (fun c3 => ?_)
        · have h := h.1 c3
          refine lv_aload_n hx hb (kn_dec tX9_test_t0 22 rfl) rfl (lv_at hl 0 rfl) ?_
          refine lv_bipush (v := (9)) hx hb (kn_dec tX9_test_t0 23 rfl) (by decide) ?_
          refine kw_callv (wc := [(kModel, ad_m, _)]) (wr := []) I hA [0] [] rfl rfl (by decide) (by decide) (kn_runV (As := [.int _]) S0 hK hZ hA I ((ctX9_answers h).met _) (kn_cwV 1 hts q6_85 q6_87 q0_56 q1_10 q6_88 rfl rfl (by decide +kernel) ⟨(Nat.le_of_ble_eq_true rfl), (Nat.le_of_ble_eq_true rfl)⟩) [0] rfl (by decide) 0 rfl rfl rfl rfl hl.1 rfl (Nat.le_of_ble_eq_true rfl) (kn_dec tX9_test_t0 24 rfl) ⟨(Nat.le_of_ble_eq_true rfl), (Nat.le_of_ble_eq_true rfl)⟩) (fun u5 H locs h I => ?_)
          have I : kn_I D tc (kn_A w0 s.heap.size) s.heap [(kModel, ad_m, _)] _ _ := I
          refine lv_aload_n hx hb (kn_dec tX9_test_t0 25 rfl) rfl (lv_at hl 0 rfl) ?_
          refine kw_callv (wc := [(kModel, ad_m, _)]) (wr := []) I hA [0] [] rfl rfl (by decide) (by decide) (kn_runV (As := []) S0 hK hZ hA I ((ctX9_blanks h).met _) (kn_cwV 0 hts q5_191 q5_193 q0_33 q1_10 q5_194 rfl rfl (by decide +kernel) ⟨(Nat.le_of_ble_eq_true rfl), (Nat.le_of_ble_eq_true rfl)⟩) [0] rfl (by decide) 0 rfl rfl rfl rfl hl.1 rfl (Nat.le_of_ble_eq_true rfl) (kn_dec tX9_test_t0 26 rfl) ⟨(Nat.le_of_ble_eq_true rfl), (Nat.le_of_ble_eq_true rfl)⟩) (fun u7 H locs h I => ?_)
          have I : kn_I D tc (kn_A w0 s.heap.size) s.heap [(kModel, ad_m, _)] _ _ := I
          refine lv_aload_n hx hb (kn_dec tX9_test_t0 27 rfl) rfl (lv_at hl 0 rfl) ?_
          refine kw_ldcSw hx hb hown (hZ.1 22 _ rfl).1 (kn_dec tX9_test_t0 28 rfl) ?_
          refine kw_calli (wc := [(kModel, ad_m, _)]) (wr := []) I hA [0] [] rfl rfl (by decide) (by decide) (kn_runV (As := [.ref (Z.1 22)]) S0 hK hZ hA I ((ctX9_stood h).met _) (kn_cwV 1 hts q5_208 q5_210 q0_35 q1_10 q5_211 rfl rfl (by decide +kernel) ⟨(Nat.le_of_ble_eq_true rfl), (Nat.le_of_ble_eq_true rfl)⟩) [0] rfl (by decide) 0 rfl rfl rfl rfl hl.1 rfl (Nat.le_of_ble_eq_true rfl) (kn_dec tX9_test_t0 29 rfl) ⟨(Nat.le_of_ble_eq_true rfl), (Nat.le_of_ble_eq_true rfl)⟩) (fun r8 u9 H locs h I => ?_)
          obtain ⟨hz_r8, h⟩ := h
          have I : kn_I D tc (kn_A w0 s.heap.size) s.heap [(kModel, ad_m, _)] _ _ := I
          refine lv_istore_n (lv' := [(3, .int _), (0, .ref (ad_m 0)), (1, .int _), (2, .int _)]) hx hb (kn_dec tX9_test_t0 30 rfl) rfl hl (by decide) rfl (fun ls hl => ?_)
          refine lv_aload_n hx hb (kn_dec tX9_test_t0 31 rfl) rfl (lv_at hl 1 rfl) ?_
          refine kw_ldcSw hx hb hown (hZ.1 23 _ rfl).1 (kn_dec tX9_test_t0 32 rfl) ?_
          refine kw_calli (wc := [(kModel, ad_m, _)]) (wr := []) I hA [0] [] rfl rfl (by decide) (by decide) (kn_runV (As := [.ref (Z.1 23)]) S0 hK hZ hA I ((ctX9_stood h).met _) (kn_cwV 1 hts q5_208 q5_210 q0_35 q1_10 q5_211 rfl rfl (by decide +kernel) ⟨(Nat.le_of_ble_eq_true rfl), (Nat.le_of_ble_eq_true rfl)⟩) [0] rfl (by decide) 0 rfl rfl rfl rfl hl.1 rfl (Nat.le_of_ble_eq_true rfl) (kn_dec tX9_test_t0 33 rfl) ⟨(Nat.le_of_ble_eq_true rfl), (Nat.le_of_ble_eq_true rfl)⟩) (fun r10 u11 H locs h I => ?_)
          obtain ⟨hz_r10, h⟩ := h
          have I : kn_I D tc (kn_A w0 s.heap.size) s.heap [(kModel, ad_m, _)] _ _ := I
          refine lv_istore (lv' := [(4, .int _), (3, .int _), (0, .ref (ad_m 0)), (1, .int _), (2, .int _)]) hx hb (kn_dec tX9_test_t0 34 rfl) hl (by decide) rfl (fun ls hl => ?_)
          refine lv_aload_n hx hb (kn_dec tX9_test_t0 35 rfl) rfl (lv_at hl 2 rfl) ?_
          refine lv_bipush (v := (10)) hx hb (kn_dec tX9_test_t0 36 rfl) (by decide) ?_
          refine kw_callv (wc := [(kModel, ad_m, _)]) (wr := []) I hA [0] [] rfl rfl (by decide) (by decide) (kn_runV (As := [.int _]) S0 hK hZ hA I ((ctX9_answers h).met _) (kn_cwV 1 hts q6_85 q6_87 q0_56 q1_10 q6_88 rfl rfl (by decide +kernel) ⟨(Nat.le_of_ble_eq_true rfl), (Nat.le_of_ble_eq_true rfl)⟩) [0] rfl (by decide) 0 rfl rfl rfl rfl hl.1 rfl (Nat.le_of_ble_eq_true rfl) (kn_dec tX9_test_t0 37 rfl) ⟨(Nat.le_of_ble_eq_true rfl), (Nat.le_of_ble_eq_true rfl)⟩) (fun u13 H locs h I => ?_)
          have I : kn_I D tc (kn_A w0 s.heap.size) s.heap [(kModel, ad_m, _)] _ _ := I
          refine lv_iload_n hx hb (kn_dec tX9_test_t0 38 rfl) rfl (lv_at hl 1 rfl) ?_
          refine lv_if_ne (tgt := 82) hx hb (kn_dec tX9_test_t0 39 rfl) (by decide) (fun c14 => ?_) (fun c14 => ?_)
          · have h := h.1 c14
            exact wX9_test_b82 X ih _ _ _ _ _ _ _ hz_y2 hz_r8 hz_r10 I (lv_sub hl [2, 4, 1, 0] rfl) h
          · have h := h.2 c14
            refine lv_iload hx hb (kn_dec tX9_test_t0 40 rfl) (lv_at hl 0 rfl) ?_
            refine lv_if_eq (tgt := 131) hx hb (kn_dec tX9_test_t0 41 rfl) (by decide) (fun c15 => ?_) (fun c15 => ?_)
            · have h := h.1 c15
              refine lv_aload_n hx hb (kn_dec tX9_test_t1 7 rfl) rfl (lv_at hl 2 rfl) ?_
              refine lv_bipush (v := (11)) hx hb (kn_dec tX9_test_t1 8 rfl) (by decide) ?_
              refine kw_callv (wc := [(kModel, ad_m, _)]) (wr := []) I hA [0] [] rfl rfl (by decide) (by decide) (kn_runV (As := [.int _]) S0 hK hZ hA I ((ctX9_answers h).met _) (kn_cwV 1 hts q6_85 q6_87 q0_56 q1_10 q6_88 rfl rfl (by decide +kernel) ⟨(Nat.le_of_ble_eq_true rfl), (Nat.le_of_ble_eq_true rfl)⟩) [0] rfl (by decide) 0 rfl rfl rfl rfl hl.1 rfl (Nat.le_of_ble_eq_true rfl) (kn_dec tX9_test_t1 9 rfl) ⟨(Nat.le_of_ble_eq_true rfl), (Nat.le_of_ble_eq_true rfl)⟩) (fun u17 H locs h I => ?_)
              have I : kn_I D tc (kn_A w0 s.heap.size) s.heap [(kModel, ad_m, _)] _ _ := I
              refine lv_aload_n hx hb (kn_dec tX9_test_t1 10 rfl) rfl (lv_at hl 2 rfl) ?_
              refine kw_calli (wc := [(kModel, ad_m, _)]) (wr := []) I hA [0] [] rfl rfl (by decide) (by decide) (kn_runV (As := []) S0 hK hZ hA I ((ctX9_top h).met _) (kn_cwV 0 hts q6_89 q6_91 q0_57 q1_10 q6_92 rfl rfl (by decide +kernel) ⟨(Nat.le_of_ble_eq_true rfl), (Nat.le_of_ble_eq_true rfl)⟩) [0] rfl (by decide) 0 rfl rfl rfl rfl hl.1 rfl (Nat.le_of_ble_eq_true rfl) (kn_dec tX9_test_t1 11 rfl) ⟨(Nat.le_of_ble_eq_true rfl), (Nat.le_of_ble_eq_true rfl)⟩) (fun r18 u19 H locs h I => ?_)
              have I : kn_I D tc (kn_A w0 s.heap.size) s.heap [(kModel, ad_m, _)] _ _ := I
              refine lv_bipush (v := (12)) hx hb (kn_dec tX9_test_t1 12 rfl) (by decide) ?_
              refine lv_icmp_ne (tgt := 197) hx hb (kn_dec tX9_test_t1 13 rfl) (by decide) (fun c20 => ?_) (fun c20 => ?_)
              · have h := h.1 c20
                refine lv_iconst (v := (0)) hx hb (kn_dec tX9_test_t1 42 rfl) (by decide) ?_
                refine lv_istore_n (lv' := [(2, .int _), (4, .int _), (3, .int _), (0, .ref (ad_m 0)), (1, .int _)]) hx hb (kn_dec tX9_test_t1 43 rfl) rfl hl (by decide) rfl (fun ls hl => ?_)
                refine lv_goto (tgt := 9) hx hb (kn_dec tX9_test_t1 44 rfl) (by decide) ?_
                exact ih _ _ _ _ _ _ hz_y1 (Or.inl rfl) I (lv_sub hl [3, 4, 0] rfl) h
              · have h := h.2 c20
                refine lv_aload_n hx hb (kn_dec tX9_test_t1 14 rfl) rfl (lv_at hl 2 rfl) ?_
                refine kw_calli (wc := [(kModel, ad_m, _)]) (wr := []) I hA [0] [] rfl rfl (by decide) (by decide) (kn_runV (As := []) S0 hK hZ hA I ((ctX9_sign h).met _) (kn_cwV 0 hts q5_195 q5_197 q0_34 q1_10 q5_198 rfl rfl (by decide +kernel) ⟨(Nat.le_of_ble_eq_true rfl), (Nat.le_of_ble_eq_true rfl)⟩) [0] rfl (by decide) 0 rfl rfl rfl rfl hl.1 rfl (Nat.le_of_ble_eq_true rfl) (kn_dec tX9_test_t1 15 rfl) ⟨(Nat.le_of_ble_eq_true rfl), (Nat.le_of_ble_eq_true rfl)⟩) (fun r21 u22 H locs h I => ?_)
                have I : kn_I D tc (kn_A w0 s.heap.size) s.heap [(kModel, ad_m, _)] _ _ := I
                refine lv_bipush (v := (93)) hx hb (kn_dec tX9_test_t1 16 rfl) (by decide) ?_
                refine lv_icmp_eq (tgt := 164) hx hb (kn_dec tX9_test_t1 17 rfl) (by decide) (fun c23 => ?_) (fun c23 => ?_)
                · have h := h.1 c23
                  exact wX9_test_b164 X ih _ _ _ _ _ _ hz_y1 hz_y2 I (lv_sub hl [2, 3, 4] rfl) h
                · have h := h.2 c23
                  refine lv_aload_n hx hb (kn_dec tX9_test_t1 18 rfl) rfl (lv_at hl 2 rfl) ?_
                  refine lv_iconst (v := (0)) hx hb (kn_dec tX9_test_t1 19 rfl) (by decide) ?_
                  refine lv_aload_n hx hb (kn_dec tX9_test_t1 20 rfl) rfl (lv_at hl 2 rfl) ?_
                  refine kw_geti hx hb hts inX9 hown hK I 0 rfl rfl 31 (by decide) rfl (hts _ q4_231) (kn_dec tX9_test_t1 21 rfl) ?_
                  refine kw_callv (wc := [(kModel, ad_m, _)]) (wr := []) I hA [0] [] rfl rfl (by decide) (by decide) (kn_runV (As := [.int _, .int _]) S0 hK hZ hA I ((ctX9_fails h).met _) (kn_cwV 2 hts q5_214 q5_216 q0_36 q1_10 q5_217 rfl rfl (by decide +kernel) ⟨(Nat.le_of_ble_eq_true rfl), (Nat.le_of_ble_eq_true rfl)⟩) [0] rfl (by decide) 0 rfl rfl rfl rfl hl.1 rfl (Nat.le_of_ble_eq_true rfl) (kn_dec tX9_test_t1 22 rfl) ⟨(Nat.le_of_ble_eq_true rfl), (Nat.le_of_ble_eq_true rfl)⟩) (fun u25 H locs h I => ?_)
                  have I : kn_I D tc (kn_A w0 s.heap.size) s.heap [(kModel, ad_m, _)] _ _ := I
                  exact wX9_test_b164 X ih _ _ _ _ _ _ hz_y1 hz_y2 I (lv_sub hl [2, 3, 4] rfl) h
            · have h := h.2 c15
              exact wX9_test_b82 X ih _ _ _ _ _ _ _ hz_y2 hz_r8 hz_r10 I (lv_sub hl [2, 4, 1, 0] rfl) h
        · have h := h.2 c3
          refine lv_aload_n hx hb (kn_dec tX9_test_t0 14 rfl) rfl (lv_at hl 0 rfl) ?_
          refine kw_calli (wc := [(kModel, ad_m, _)]) (wr := []) I hA [0] [] rfl rfl (by decide) (by decide) (kn_runV (As := []) S0 hK hZ hA I ((ctX9_fact h).met _) (kn_cwV 0 hts q6_72 q6_74 q0_53 q1_10 q6_75 rfl rfl (by decide +kernel) ⟨(Nat.le_of_ble_eq_true rfl), (Nat.le_of_ble_eq_true rfl)⟩) [0] rfl (by decide) 0 rfl rfl rfl rfl hl.1 rfl (Nat.le_of_ble_eq_true rfl) (kn_dec tX9_test_t0 15 rfl) ⟨(Nat.le_of_ble_eq_true rfl), (Nat.le_of_ble_eq_true rfl)⟩) (fun r27 u28 H locs h I => ?_)
          obtain ⟨hz_r27, h⟩ := h
          have I : kn_I D tc (kn_A w0 s.heap.size) s.heap [(kModel, ad_m, _)] _ _ := I
          refine lv_if_ne (tgt := 35) hx hb (kn_dec tX9_test_t0 16 rfl) (by decide) (fun c29 => ?_) (fun c29 => ?_)
          · have h := h.1 c29
            refine lv_iconst (v := (0)) hx hb (kn_dec tX9_test_t0 19 rfl) (by decide) ?_
            refine lv_istore_n (lv' := [(1, .int _), (0, .ref (ad_m 0)), (2, .int _)]) hx hb (kn_dec tX9_test_t0 20 rfl) rfl hl (by decide) rfl (fun ls hl => ?_)
            refine lv_goto (tgt := 9) hx hb (kn_dec tX9_test_t0 21 rfl) (by decide) ?_
            exact ih _ _ _ _ _ _ (Or.inl rfl) hz_y2 I (lv_sub hl [1, 0, 2] rfl) h
          · have h := h.2 c29
            refine lv_iconst (v := (1)) hx hb (kn_dec tX9_test_t0 17 rfl) (by decide) ?_
            refine lv_goto (tgt := 36) hx hb (kn_dec tX9_test_t0 18 rfl) (by decide) ?_
            refine lv_istore_n (lv' := [(1, .int _), (0, .ref (ad_m 0)), (2, .int _)]) hx hb (kn_dec tX9_test_t0 20 rfl) rfl hl (by decide) rfl (fun ls hl => ?_)
            refine lv_goto (tgt := 9) hx hb (kn_dec tX9_test_t0 21 rfl) (by decide) ?_
            exact ih _ _ _ _ _ _ (Or.inr rfl) hz_y2 I (lv_sub hl [1, 0, 2] rfl) h
def PX9_test  (v_m : OV) (post : OV → Prop) : Prop := (∀ v_m1 : OV, v_m1 = si v_m 38 ((0 : Int32)) → (∃ n2 : Nat, PX9_test_L9 post n2 ((1 : Int32)) ((1 : Int32)) v_m1))
set_option maxRecDepth 100000 in
set_option maxHeartbeats 1000000 in
theorem ctX9_test {l : Launch} {D : va_G} {tc : Nat → ClassId} {Z : (Nat → Nat) × (Nat → Nat)}  {ad_m : Nat → Nat} {v_m : OV}    {post : OV → Prop} (h : PX9_test  v_m post) : CTv l D tc Z yX9_test (Cond.code yX9_test cX9_test 5 none :: kn_all) rmX9_test 0 0 [.ref (ad_m 0)] [(kModel, ad_m, v_m)] (fun (u : OV) => [(kModel, ad_m, u)]) (fun (u : OV) => post u) := by
  refine kn_ofv (cc := cX9_test) (nL := 5) (ret := none) (lv := [(0, .ref (ad_m 0))]) (by decide) (Nat.le_of_ble_eq_true rfl) rfl (fun p e s m below meth c ls X I hl _ => ?_)
  obtain ⟨S0, hr, hlocks, hK, hZ, hA⟩ := id X
  obtain ⟨hx, hb, hml, hown, hts⟩ := id S0
  unfold PX9_test at h
  refine lv_aload_n hx hb (kn_dec tX9_test_t0 0 rfl) rfl (lv_at hl 0 rfl) ?_
  refine lv_iconst (v := (0)) hx hb (kn_dec tX9_test_t0 1 rfl) (by decide) ?_
  refine kw_puti hx hb hts inX9 tyX9 tyX9_ok nmX9 hown hK I 0 rfl rfl 38 (by decide) rfl (hts _ q4_238) rfl rfl rfl (kn_dec tX9_test_t0 2 rfl) (fun v_m1 ev_m1 H locs I => ?_)
  have h := h v_m1 ev_m1
  have I : kn_I D tc (kn_A _ s.heap.size) s.heap [(kModel, ad_m, _)] _ _ := I
  refine lv_iconst (v := (1)) hx hb (kn_dec tX9_test_t0 3 rfl) (by decide) ?_
  refine lv_istore_n (lv' := [(1, .int _), (0, .ref (ad_m 0))]) hx hb (kn_dec tX9_test_t0 4 rfl) rfl hl (by decide) rfl (fun ls hl => ?_)
  refine lv_iconst (v := (1)) hx hb (kn_dec tX9_test_t0 5 rfl) (by decide) ?_
  refine lv_istore_n (lv' := [(2, .int _), (1, .int _), (0, .ref (ad_m 0))]) hx hb (kn_dec tX9_test_t0 6 rfl) rfl hl (by decide) rfl (fun ls hl => ?_)
  obtain ⟨n2, h⟩ := h
  exact wX9_test_L9 X n2 _ _ _ _ _ _ (Or.inr rfl) (Or.inr rfl) I (lv_sub hl [2, 1, 0] rfl) h

/-! X9_hillClause -/
abbrev rmX9_hillClause : Room := { frames := 6, cells := 0, slots := 0, locals := 135 }
def PX9_hillClause_b34   (post : OV → Prop) (y1 : Int32) (y2 : Int32) (y3 : Int32) (v_m : OV) : Prop := ((¬ y3 = ((6 : Int32)) → (PX9_isFull v_m y3 y1 (fun r2 => ((r2 = ((0 : Int32)) → (PX9_hillWord y3 (fun r5 => (PJ0_length_8abf5 r5 (fun r7 => (∀ x9 : Int32, x9 = ((v_m.1 31) + r7) → (∀ v_m10 : OV, v_m10 = si v_m 31 x9 → (PX9_hillPart v_m10 y3 (fun v_m11 => post v_m11))))))))) ∧ (¬ r2 = ((0 : Int32)) → (PX9_fails v_m ((4 : Int32)) y2 (fun v_m13 => post v_m13))))))) ∧ (y3 = ((6 : Int32)) → (PX9_fails v_m ((0 : Int32)) y2 (fun v_m15 => post v_m15))))
set_option maxRecDepth 100000 in
set_option maxHeartbeats 1000000 in
theorem wX9_hillClause_b34   {post : OV → Prop} {ad_m : Nat → Nat} (X : kn_X p s m args meth c cX9_hillClause 4 none RX9 kn_all D tc Z (kn_A w0 s.heap.size))    : ∀ (H : Heap) (locs : List Loc) (ls : Array Slot) (y1 : Int32) (y2 : Int32) (y3 : Int32) (v_m : OV), kn_I D tc (kn_A w0 s.heap.size) s.heap [(kModel, ad_m, v_m)] H locs → lv_has ls 4 [(0, .ref (ad_m 0)), (1, .int y1), (2, .int y2), (3, .int y3)] → PX9_hillClause_b34 post y1 y2 y3 v_m → W p l e rmX9_hillClause s m args below meth c H locs 0 0 (kn_Qv D tc w0 (fun (u : OV) => [(kModel, ad_m, u)]) (fun (u : OV) => post u) below args s 0 0) (F0 m 34 ls []) := by
  obtain ⟨S0, hr, hlocks, hK, hZ, hA⟩ := id X
  obtain ⟨hx, hb, hml, hown, hts⟩ := id S0
  intro H locs ls y1 y2 y3 v_m I hl h
  unfold PX9_hillClause_b34 at h
  refine lv_iload_n hx hb (kn_dec tX9_hillClause 17 rfl) rfl (lv_at hl 3 rfl) ?_
  refine lv_bipush (v := (6)) hx hb (kn_dec tX9_hillClause 18 rfl) (by decide) ?_
  refine lv_icmp_ne (tgt := 47) hx hb (kn_dec tX9_hillClause 19 rfl) (by decide) (fun c1 => ?_) (fun c1 => ?_)
  · have h := h.1 c1
    refine lv_aload_n hx hb (kn_dec tX9_hillClause 25 rfl) rfl (lv_at hl 0 rfl) ?_
    refine lv_iload_n hx hb (kn_dec tX9_hillClause 26 rfl) rfl (lv_at hl 3 rfl) ?_
    refine lv_iload_n hx hb (kn_dec tX9_hillClause 27 rfl) rfl (lv_at hl 1 rfl) ?_
    refine kw_calli (wc := [(kModel, ad_m, _)]) (wr := []) I hA [0] [] rfl rfl (by decide) (by decide) (kn_runV (As := [.int _, .int _]) S0 hK hZ hA I ((ctX9_isFull h).met _) (kn_cwV 2 hts q5_218 q5_220 q0_37 q1_10 q5_221 rfl rfl (by decide +kernel) ⟨(Nat.le_of_ble_eq_true rfl), (Nat.le_of_ble_eq_true rfl)⟩) [0] rfl (by decide) 0 rfl rfl rfl rfl hl.1 rfl (Nat.le_of_ble_eq_true rfl) (kn_dec tX9_hillClause 28 rfl) ⟨(Nat.le_of_ble_eq_true rfl), (Nat.le_of_ble_eq_true rfl)⟩) (fun r2 u3 H locs h I => ?_)
    obtain ⟨hz_r2, h⟩ := h
    have I : kn_I D tc (kn_A w0 s.heap.size) s.heap [(kModel, ad_m, _)] _ _ := I
    refine lv_if_eq (tgt := 63) hx hb (kn_dec tX9_hillClause 29 rfl) (by decide) (fun c4 => ?_) (fun c4 => ?_)
    · have h := h.1 c4
      refine lv_aload_n hx hb (kn_dec tX9_hillClause 35 rfl) rfl (lv_at hl 0 rfl) ?_
      refine lv_dup hx hb (kn_dec tX9_hillClause 36 rfl) rfl ?_
      refine kw_geti hx hb hts inX9 hown hK I 0 rfl rfl 31 (by decide) rfl (hts _ q4_231) (kn_dec tX9_hillClause 37 rfl) ?_
      refine lv_iload_n hx hb (kn_dec tX9_hillClause 38 rfl) rfl (lv_at hl 3 rfl) ?_
      have I : kn_I D tc (kn_A w0 s.heap.size) s.heap ([] ++ (List.flatten [[(kModel, ad_m, _)]])) _ _ := I.perm (kn_segA (segs := [[(kModel, ad_m, _)]]) (sC := []) (sR := [[(kModel, ad_m, _)]]) [0] rfl rfl)
      refine kw_callq (wc := []) (wr := (List.flatten [[(kModel, ad_m, _)]])) I hA (kn_pl1 _ _) (kn_pl2 _ _) (kn_pl1_ok _ _) (kn_pl2_ok _ _) (kn_pl2_nd _ _) (kn_pl_dis _ _) (kn_runS (As := [.int _]) S0 hK hZ hA I ((ctX9_hillWord h).met _) (kn_cwS 1 hts q5_199 q5_200 q1_10 q5_201 rfl rfl (by decide +kernel) ⟨(Nat.le_of_ble_eq_true rfl), (Nat.le_of_ble_eq_true rfl)⟩) (kn_pl1 _ _) (kn_pl1_ok _ _) (kn_pl1_nd _ _) rfl hl.1 rfl (Nat.le_of_ble_eq_true rfl) (kn_dec tX9_hillClause 39 rfl) ⟨(Nat.le_of_ble_eq_true rfl), (Nat.le_of_ble_eq_true rfl)⟩) (fun r5 u6 H locs h I => ?_)
      obtain ⟨r5, hi_r5, rfl, h⟩ := h
      have I : kn_I D tc (kn_A w0 s.heap.size) s.heap (List.flatten [[(kModel, ad_m, _)]]) _ _ := I.perm (kn_segB (sC := [[(kModel, ad_m, _)]]) (sR := []) (segs := [[(kModel, ad_m, _)]]) [0] rfl rfl)
      have I : kn_I D tc (kn_A w0 s.heap.size) s.heap [(kModel, ad_m, _)] _ _ := I
      refine kw_calli (wc := []) (wr := [(kModel, ad_m, _)]) I hA [] [0] rfl rfl (by decide) (by decide) (kn_runVR (As := []) S0 hK hZ hA I ((ctJ0_length_8abf5 h).met _) (kn_cwV 0 hts q5_212 q2_183 q2_184 q1_12 q2_185 rfl rfl (by decide +kernel) ⟨(Nat.le_of_ble_eq_true rfl), (Nat.le_of_ble_eq_true rfl)⟩) [] rfl (by decide) (vk_recv (kn_zs hZ hi_r5) (i := 0) (by decide) I.2.2) rfl hl.1 rfl (Nat.le_of_ble_eq_true rfl) (kn_dec tX9_hillClause 40 rfl) ⟨(Nat.le_of_ble_eq_true rfl), (Nat.le_of_ble_eq_true rfl)⟩) (fun r7 u8 H locs h I => ?_)
      have I : kn_I D tc (kn_A w0 s.heap.size) s.heap [(kModel, ad_m, _)] _ _ := I
      refine lv_iadd hx hb (kn_dec tX9_hillClause 41 rfl) ?_
      refine lv_topi (fun x9 ex9 => ?_)
      have h := h x9 ex9
      refine kw_puti hx hb hts inX9 tyX9 tyX9_ok nmX9 hown hK I 0 rfl rfl 31 (by decide) rfl (hts _ q4_231) rfl rfl rfl (kn_dec tX9_hillClause 42 rfl) (fun v_m10 ev_m10 H locs I => ?_)
      have h := h v_m10 ev_m10
      have I : kn_I D tc (kn_A w0 s.heap.size) s.heap [(kModel, ad_m, _)] _ _ := I
      refine lv_aload_n hx hb (kn_dec tX9_hillClause 43 rfl) rfl (lv_at hl 0 rfl) ?_
      refine lv_iload_n hx hb (kn_dec tX9_hillClause 44 rfl) rfl (lv_at hl 3 rfl) ?_
      refine kw_callv (wc := [(kModel, ad_m, _)]) (wr := []) I hA [0] [] rfl rfl (by decide) (by decide) (kn_runV (As := [.int _]) S0 hK hZ hA I ((ctX9_hillPart h).met _) (kn_cwV 1 hts q5_222 q5_224 q0_38 q1_10 q5_225 rfl rfl (by decide +kernel) ⟨(Nat.le_of_ble_eq_true rfl), (Nat.le_of_ble_eq_true rfl)⟩) [0] rfl (by decide) 0 rfl rfl rfl rfl hl.1 rfl (Nat.le_of_ble_eq_true rfl) (kn_dec tX9_hillClause 45 rfl) ⟨(Nat.le_of_ble_eq_true rfl), (Nat.le_of_ble_eq_true rfl)⟩) (fun u12 H locs h I => ?_)
      have I : kn_I D tc (kn_A w0 s.heap.size) s.heap [(kModel, ad_m, _)] _ _ := I
      exact kw_vret hx hb hr hlocks I _ rfl h (kn_dec tX9_hillClause 46 rfl)
    · have h := h.2 c4
      refine lv_aload_n hx hb (kn_dec tX9_hillClause 30 rfl) rfl (lv_at hl 0 rfl) ?_
      refine lv_iconst (v := (4)) hx hb (kn_dec tX9_hillClause 31 rfl) (by decide) ?_
      refine lv_iload_n hx hb (kn_dec tX9_hillClause 32 rfl) rfl (lv_at hl 2 rfl) ?_
      refine kw_callv (wc := [(kModel, ad_m, _)]) (wr := []) I hA [0] [] rfl rfl (by decide) (by decide) (kn_runV (As := [.int _, .int _]) S0 hK hZ hA I ((ctX9_fails h).met _) (kn_cwV 2 hts q5_214 q5_216 q0_36 q1_10 q5_217 rfl rfl (by decide +kernel) ⟨(Nat.le_of_ble_eq_true rfl), (Nat.le_of_ble_eq_true rfl)⟩) [0] rfl (by decide) 0 rfl rfl rfl rfl hl.1 rfl (Nat.le_of_ble_eq_true rfl) (kn_dec tX9_hillClause 33 rfl) ⟨(Nat.le_of_ble_eq_true rfl), (Nat.le_of_ble_eq_true rfl)⟩) (fun u14 H locs h I => ?_)
      have I : kn_I D tc (kn_A w0 s.heap.size) s.heap [(kModel, ad_m, _)] _ _ := I
      exact kw_vret hx hb hr hlocks I _ rfl h (kn_dec tX9_hillClause 34 rfl)
  · have h := h.2 c1
    refine lv_aload_n hx hb (kn_dec tX9_hillClause 20 rfl) rfl (lv_at hl 0 rfl) ?_
    refine lv_iconst (v := (0)) hx hb (kn_dec tX9_hillClause 21 rfl) (by decide) ?_
    refine lv_iload_n hx hb (kn_dec tX9_hillClause 22 rfl) rfl (lv_at hl 2 rfl) ?_
    refine kw_callv (wc := [(kModel, ad_m, _)]) (wr := []) I hA [0] [] rfl rfl (by decide) (by decide) (kn_runV (As := [.int _, .int _]) S0 hK hZ hA I ((ctX9_fails h).met _) (kn_cwV 2 hts q5_214 q5_216 q0_36 q1_10 q5_217 rfl rfl (by decide +kernel) ⟨(Nat.le_of_ble_eq_true rfl), (Nat.le_of_ble_eq_true rfl)⟩) [0] rfl (by decide) 0 rfl rfl rfl rfl hl.1 rfl (Nat.le_of_ble_eq_true rfl) (kn_dec tX9_hillClause 23 rfl) ⟨(Nat.le_of_ble_eq_true rfl), (Nat.le_of_ble_eq_true rfl)⟩) (fun u16 H locs h I => ?_)
    have I : kn_I D tc (kn_A w0 s.heap.size) s.heap [(kModel, ad_m, _)] _ _ := I
    exact kw_vret hx hb hr hlocks I _ rfl h (kn_dec tX9_hillClause 24 rfl)
def PX9_hillClause_L11   (post : OV → Prop) : Nat → Int32 → Int32 → Int32 → OV → Prop
  | 0, _, _, _, _ => False
  | n + 1, y1, y2, y3, v_m => ((((6 : Int32)) ≤ y3 → PX9_hillClause_b34 post y1 y2 y3 v_m) ∧ (¬ ((6 : Int32)) ≤ y3 → (PX9_hillWord y3 (fun r2 => (PX9_stood v_m r2 (fun r4 => ((¬ r4 = ((0 : Int32)) → PX9_hillClause_b34 post y1 y2 y3 v_m) ∧ (r4 = ((0 : Int32)) → (∀ x7 : Int32, x7 = y3 + (1 : Int32) → PX9_hillClause_L11 post n y1 y2 x7 v_m)))))))))
set_option maxRecDepth 100000 in
set_option maxHeartbeats 1000000 in
theorem wX9_hillClause_L11   {post : OV → Prop} {ad_m : Nat → Nat} (X : kn_X p s m args meth c cX9_hillClause 4 none RX9 kn_all D tc Z (kn_A w0 s.heap.size))    : ∀ n : Nat, ∀ (H : Heap) (locs : List Loc) (ls : Array Slot) (y1 : Int32) (y2 : Int32) (y3 : Int32) (v_m : OV), kn_I D tc (kn_A w0 s.heap.size) s.heap [(kModel, ad_m, v_m)] H locs → lv_has ls 4 [(0, .ref (ad_m 0)), (1, .int y1), (2, .int y2), (3, .int y3)] → PX9_hillClause_L11 post n y1 y2 y3 v_m → W p l e rmX9_hillClause s m args below meth c H locs 0 0 (kn_Qv D tc w0 (fun (u : OV) => [(kModel, ad_m, u)]) (fun (u : OV) => post u) below args s 0 0) (F0 m 11 ls []) := by
  obtain ⟨S0, hr, hlocks, hK, hZ, hA⟩ := id X
  obtain ⟨hx, hb, hml, hown, hts⟩ := id S0
  intro n
  induction n with
  | zero =>
    intro H locs ls y1 y2 y3 v_m I hl h
    unfold PX9_hillClause_L11 at h
    exact h.elim
  | succ n ih =>
    intro H locs ls y1 y2 y3 v_m I hl h
    unfold PX9_hillClause_L11 at h
    refine lv_iload_n hx hb (kn_dec tX9_hillClause 7 rfl) rfl (lv_at hl 3 rfl) ?_
    refine lv_bipush (v := (6)) hx hb (kn_dec tX9_hillClause 8 rfl) (by decide) ?_
    refine lv_icmp_ge (tgt := 34) hx hb (kn_dec tX9_hillClause 9 rfl) (by decide) (fun c1 => ?_) (fun c1 => ?_)
    · have h := h.1 c1
      exact wX9_hillClause_b34 X _ _ _ _ _ _ _  I (lv_sub hl [0, 1, 2, 3] rfl) h
    · have h := h.2 c1
      refine lv_aload_n hx hb (kn_dec tX9_hillClause 10 rfl) rfl (lv_at hl 0 rfl) ?_
      refine lv_iload_n hx hb (kn_dec tX9_hillClause 11 rfl) rfl (lv_at hl 3 rfl) ?_
      have I : kn_I D tc (kn_A w0 s.heap.size) s.heap ([] ++ (List.flatten [[(kModel, ad_m, _)]])) _ _ := I.perm (kn_segA (segs := [[(kModel, ad_m, _)]]) (sC := []) (sR := [[(kModel, ad_m, _)]]) [0] rfl rfl)
      refine kw_callq (wc := []) (wr := (List.flatten [[(kModel, ad_m, _)]])) I hA (kn_pl1 _ _) (kn_pl2 _ _) (kn_pl1_ok _ _) (kn_pl2_ok _ _) (kn_pl2_nd _ _) (kn_pl_dis _ _) (kn_runS (As := [.int _]) S0 hK hZ hA I ((ctX9_hillWord h).met _) (kn_cwS 1 hts q5_199 q5_200 q1_10 q5_201 rfl rfl (by decide +kernel) ⟨(Nat.le_of_ble_eq_true rfl), (Nat.le_of_ble_eq_true rfl)⟩) (kn_pl1 _ _) (kn_pl1_ok _ _) (kn_pl1_nd _ _) rfl hl.1 rfl (Nat.le_of_ble_eq_true rfl) (kn_dec tX9_hillClause 12 rfl) ⟨(Nat.le_of_ble_eq_true rfl), (Nat.le_of_ble_eq_true rfl)⟩) (fun r2 u3 H locs h I => ?_)
      obtain ⟨r2, hi_r2, rfl, h⟩ := h
      have I : kn_I D tc (kn_A w0 s.heap.size) s.heap (List.flatten [[(kModel, ad_m, _)]]) _ _ := I.perm (kn_segB (sC := [[(kModel, ad_m, _)]]) (sR := []) (segs := [[(kModel, ad_m, _)]]) [0] rfl rfl)
      have I : kn_I D tc (kn_A w0 s.heap.size) s.heap [(kModel, ad_m, _)] _ _ := I
      refine kw_calli (wc := [(kModel, ad_m, _)]) (wr := []) I hA [0] [] rfl rfl (by decide) (by decide) (kn_runV (As := [.ref (Z.1 r2)]) S0 hK hZ hA I ((ctX9_stood h).met _) (kn_cwV 1 hts q5_208 q5_210 q0_35 q1_10 q5_211 rfl rfl (by decide +kernel) ⟨(Nat.le_of_ble_eq_true rfl), (Nat.le_of_ble_eq_true rfl)⟩) [0] rfl (by decide) 0 rfl rfl rfl rfl hl.1 rfl (Nat.le_of_ble_eq_true rfl) (kn_dec tX9_hillClause 13 rfl) ⟨(Nat.le_of_ble_eq_true rfl), (Nat.le_of_ble_eq_true rfl)⟩) (fun r4 u5 H locs h I => ?_)
      obtain ⟨hz_r4, h⟩ := h
      have I : kn_I D tc (kn_A w0 s.heap.size) s.heap [(kModel, ad_m, _)] _ _ := I
      refine lv_if_ne (tgt := 34) hx hb (kn_dec tX9_hillClause 14 rfl) (by decide) (fun c6 => ?_) (fun c6 => ?_)
      · have h := h.1 c6
        exact wX9_hillClause_b34 X _ _ _ _ _ _ _  I (lv_sub hl [0, 1, 2, 3] rfl) h
      · have h := h.2 c6
        refine kw_iinc (lvf := fun y => [(3, .int y), (0, .ref (ad_m 0)), (1, .int _), (2, .int _)]) (nv := (1)) hx hb (kn_dec tX9_hillClause 15 rfl) hl (k := 3) rfl (by decide) (by decide) (fun _ => rfl) (fun x7 ex7 ls hl => ?_)
        have h := h x7 ex7
        refine lv_goto (tgt := 11) hx hb (kn_dec tX9_hillClause 16 rfl) (by decide) ?_
        exact ih _ _ _ _ _ _ _  I (lv_sub hl [1, 2, 3, 0] rfl) h
def PX9_hillClause  (v_m : OV) (a1 : Int32) (post : OV → Prop) : Prop := (PX9_blanks v_m (fun v_m1 => (∀ x3 : Int32, x3 = (v_m1.1 31) → (∃ n4 : Nat, PX9_hillClause_L11 post n4 a1 x3 ((0 : Int32)) v_m1))))
set_option maxRecDepth 100000 in
set_option maxHeartbeats 1000000 in
theorem ctX9_hillClause {l : Launch} {D : va_G} {tc : Nat → ClassId} {Z : (Nat → Nat) × (Nat → Nat)}  {ad_m : Nat → Nat} {v_m : OV} {a1 : Int32}    {post : OV → Prop} (h : PX9_hillClause  v_m a1 post) : CTv l D tc Z yX9_hillClause (Cond.code yX9_hillClause cX9_hillClause 4 none :: kn_all) rmX9_hillClause 0 0 [.ref (ad_m 0), .int a1] [(kModel, ad_m, v_m)] (fun (u : OV) => [(kModel, ad_m, u)]) (fun (u : OV) => post u) := by
  refine kn_ofv (cc := cX9_hillClause) (nL := 4) (ret := none) (lv := [(0, .ref (ad_m 0)), (1, .int a1)]) (by decide) (Nat.le_of_ble_eq_true rfl) rfl (fun p e s m below meth c ls X I hl _ => ?_)
  obtain ⟨S0, hr, hlocks, hK, hZ, hA⟩ := id X
  obtain ⟨hx, hb, hml, hown, hts⟩ := id S0
  unfold PX9_hillClause at h
  refine lv_aload_n hx hb (kn_dec tX9_hillClause 0 rfl) rfl (lv_at hl 0 rfl) ?_
  refine kw_callv (wc := [(kModel, ad_m, _)]) (wr := []) I hA [0] [] rfl rfl (by decide) (by decide) (kn_runV (As := []) S0 hK hZ hA I ((ctX9_blanks h).met _) (kn_cwV 0 hts q5_191 q5_193 q0_33 q1_10 q5_194 rfl rfl (by decide +kernel) ⟨(Nat.le_of_ble_eq_true rfl), (Nat.le_of_ble_eq_true rfl)⟩) [0] rfl (by decide) 0 rfl rfl rfl rfl hl.1 rfl (Nat.le_of_ble_eq_true rfl) (kn_dec tX9_hillClause 1 rfl) ⟨(Nat.le_of_ble_eq_true rfl), (Nat.le_of_ble_eq_true rfl)⟩) (fun u2 H locs h I => ?_)
  have I : kn_I D tc (kn_A _ s.heap.size) s.heap [(kModel, ad_m, _)] _ _ := I
  refine lv_aload_n hx hb (kn_dec tX9_hillClause 2 rfl) rfl (lv_at hl 0 rfl) ?_
  refine kw_geti hx hb hts inX9 hown hK I 0 rfl rfl 31 (by decide) rfl (hts _ q4_231) (kn_dec tX9_hillClause 3 rfl) ?_
  refine lv_topi (fun x3 ex3 => ?_)
  have h := h x3 ex3
  refine lv_istore_n (lv' := [(2, .int _), (0, .ref (ad_m 0)), (1, .int _)]) hx hb (kn_dec tX9_hillClause 4 rfl) rfl hl (by decide) rfl (fun ls hl => ?_)
  refine lv_iconst (v := (0)) hx hb (kn_dec tX9_hillClause 5 rfl) (by decide) ?_
  refine lv_istore_n (lv' := [(3, .int _), (2, .int _), (0, .ref (ad_m 0)), (1, .int _)]) hx hb (kn_dec tX9_hillClause 6 rfl) rfl hl (by decide) rfl (fun ls hl => ?_)
  obtain ⟨n4, h⟩ := h
  exact wX9_hillClause_L11 X n4 _ _ _ _ _ _ _  I (lv_sub hl [2, 3, 1, 0] rfl) h

/-! X9_readsAll -/
abbrev rmX9_readsAll : Room := { frames := 7, cells := 0, slots := 0, locals := 158 }
def PX9_readsAll_L39   (post : OV → Prop) : Nat → Int32 → Int32 → OV → Prop
  | 0, _, _, _ => False
  | n + 1, y1, y2, v_m => ((y2 = ((0 : Int32)) → (∀ v_m2 : OV, v_m2 = si v_m 30 ((0 : Int32)) → post v_m2)) ∧ (¬ y2 = ((0 : Int32)) → (PX9_hillClause v_m y1 (fun v_m3 => (∀ x5 : Int32, x5 = y1 + (1 : Int32) → (PX9_goesOn v_m3 (fun r7 v_m6 => PX9_readsAll_L39 post n x5 r7 v_m6)))))))
set_option maxRecDepth 100000 in
set_option maxHeartbeats 1000000 in
theorem wX9_readsAll_L39   {post : OV → Prop} {ad_m : Nat → Nat} (X : kn_X p s m args meth c cX9_readsAll 3 none RX9 kn_all D tc Z (kn_A w0 s.heap.size))    : ∀ n : Nat, ∀ (H : Heap) (locs : List Loc) (ls : Array Slot) (y1 : Int32) (y2 : Int32) (v_m : OV), (hz_y2 : y2 = 0 ∨ y2 = 1) → kn_I D tc (kn_A w0 s.heap.size) s.heap [(kModel, ad_m, v_m)] H locs → lv_has ls 3 [(0, .ref (ad_m 0)), (1, .int y1), (2, .int y2)] → PX9_readsAll_L39 post n y1 y2 v_m → W p l e rmX9_readsAll s m args below meth c H locs 0 0 (kn_Qv D tc w0 (fun (u : OV) => [(kModel, ad_m, u)]) (fun (u : OV) => post u) below args s 0 0) (F0 m 39 ls []) := by
  obtain ⟨S0, hr, hlocks, hK, hZ, hA⟩ := id X
  obtain ⟨hx, hb, hml, hown, hts⟩ := id S0
  intro n
  induction n with
  | zero =>
    intro H locs ls y1 y2 v_m hz_y2 I hl h
    unfold PX9_readsAll_L39 at h
    exact h.elim
  | succ n ih =>
    intro H locs ls y1 y2 v_m hz_y2 I hl h
    unfold PX9_readsAll_L39 at h
    refine lv_iload_n hx hb (kn_dec tX9_readsAll 23 rfl) rfl (lv_at hl 2 rfl) ?_
    refine lv_if_eq (tgt := 59) hx hb (kn_dec tX9_readsAll 24 rfl) (by decide) (fun c1 => ?_) (fun c1 => ?_)
    · have h := h.1 c1
      refine lv_aload_n hx hb (kn_dec tX9_readsAll 33 rfl) rfl (lv_at hl 0 rfl) ?_
      refine lv_iconst (v := (0)) hx hb (kn_dec tX9_readsAll 34 rfl) (by decide) ?_
      refine kw_puti hx hb hts inX9 tyX9 tyX9_ok nmX9 hown hK I 0 rfl rfl 30 (by decide) rfl (hts _ q4_230) rfl rfl rfl (kn_dec tX9_readsAll 35 rfl) (fun v_m2 ev_m2 H locs I => ?_)
      have h := h v_m2 ev_m2
      have I : kn_I D tc (kn_A w0 s.heap.size) s.heap [(kModel, ad_m, _)] _ _ := I
      exact kw_vret hx hb hr hlocks I _ rfl h (kn_dec tX9_readsAll 36 rfl)
    · have h := h.2 c1
      refine lv_aload_n hx hb (kn_dec tX9_readsAll 25 rfl) rfl (lv_at hl 0 rfl) ?_
      refine lv_iload_n hx hb (kn_dec tX9_readsAll 26 rfl) rfl (lv_at hl 1 rfl) ?_
      refine kw_callv (wc := [(kModel, ad_m, _)]) (wr := []) I hA [0] [] rfl rfl (by decide) (by decide) (kn_runV (As := [.int _]) S0 hK hZ hA I ((ctX9_hillClause h).met _) (kn_cwV 1 hts q5_187 q5_189 q0_32 q1_10 q5_190 rfl rfl (by decide +kernel) ⟨(Nat.le_of_ble_eq_true rfl), (Nat.le_of_ble_eq_true rfl)⟩) [0] rfl (by decide) 0 rfl rfl rfl rfl hl.1 rfl (Nat.le_of_ble_eq_true rfl) (kn_dec tX9_readsAll 27 rfl) ⟨(Nat.le_of_ble_eq_true rfl), (Nat.le_of_ble_eq_true rfl)⟩) (fun u4 H locs h I => ?_)
      have I : kn_I D tc (kn_A w0 s.heap.size) s.heap [(kModel, ad_m, _)] _ _ := I
      refine kw_iinc (lvf := fun y => [(1, .int y), (0, .ref (ad_m 0)), (2, .int _)]) (nv := (1)) hx hb (kn_dec tX9_readsAll 28 rfl) hl (k := 1) rfl (by decide) (by decide) (fun _ => rfl) (fun x5 ex5 ls hl => ?_)
      have h := h x5 ex5
      refine lv_aload_n hx hb (kn_dec tX9_readsAll 29 rfl) rfl (lv_at hl 1 rfl) ?_
      refine kw_calli (wc := [(kModel, ad_m, _)]) (wr := []) I hA [0] [] rfl rfl (by decide) (by decide) (kn_runV (As := []) S0 hK hZ hA I ((ctX9_goesOn h).met _) (kn_cwV 0 hts q6_8 q6_10 q0_43 q1_10 q6_11 rfl rfl (by decide +kernel) ⟨(Nat.le_of_ble_eq_true rfl), (Nat.le_of_ble_eq_true rfl)⟩) [0] rfl (by decide) 0 rfl rfl rfl rfl hl.1 rfl (Nat.le_of_ble_eq_true rfl) (kn_dec tX9_readsAll 30 rfl) ⟨(Nat.le_of_ble_eq_true rfl), (Nat.le_of_ble_eq_true rfl)⟩) (fun r7 u8 H locs h I => ?_)
      obtain ⟨hz_r7, h⟩ := h
      have I : kn_I D tc (kn_A w0 s.heap.size) s.heap [(kModel, ad_m, _)] _ _ := I
      refine lv_istore_n (lv' := [(2, .int _), (1, .int _), (0, .ref (ad_m 0))]) hx hb (kn_dec tX9_readsAll 31 rfl) rfl hl (by decide) rfl (fun ls hl => ?_)
      refine lv_goto (tgt := 39) hx hb (kn_dec tX9_readsAll 32 rfl) (by decide) ?_
      exact ih _ _ _ _ _ _ hz_r7 I (lv_sub hl [2, 1, 0] rfl) h
def PX9_readsAll_L6   (post : OV → Prop) : Nat → Int32 → OV → Prop
  | 0, _, _ => False
  | n + 1, y1, v_m => ((((8 : Int32)) ≤ y1 → (∃ n2 : Nat, PX9_readsAll_L39 post n2 ((0 : Int32)) ((1 : Int32)) v_m)) ∧ (¬ ((8 : Int32)) ≤ y1 → ((¬ y1 = ((7 : Int32)) → (vp_in y1 8 ∧ (∀ v_m5 : OV, v_m5 = sa v_m 20 (upd (v_m.2.1 20) y1.toNatClampNeg ((0 : Int32))) → (∀ x6 : Int32, x6 = y1 + (1 : Int32) → PX9_readsAll_L6 post n x6 v_m5)))) ∧ (y1 = ((7 : Int32)) → (vp_in y1 8 ∧ (∀ v_m8 : OV, v_m8 = sa v_m 20 (upd (v_m.2.1 20) y1.toNatClampNeg ((-1 : Int32))) → (∀ x9 : Int32, x9 = y1 + (1 : Int32) → PX9_readsAll_L6 post n x9 v_m8)))))))
set_option maxRecDepth 100000 in
set_option maxHeartbeats 1000000 in
theorem wX9_readsAll_L6   {post : OV → Prop} {ad_m : Nat → Nat} (X : kn_X p s m args meth c cX9_readsAll 3 none RX9 kn_all D tc Z (kn_A w0 s.heap.size))    : ∀ n : Nat, ∀ (H : Heap) (locs : List Loc) (ls : Array Slot) (y1 : Int32) (v_m : OV), kn_I D tc (kn_A w0 s.heap.size) s.heap [(kModel, ad_m, v_m)] H locs → lv_has ls 3 [(0, .ref (ad_m 0)), (1, .int y1)] → PX9_readsAll_L6 post n y1 v_m → W p l e rmX9_readsAll s m args below meth c H locs 0 0 (kn_Qv D tc w0 (fun (u : OV) => [(kModel, ad_m, u)]) (fun (u : OV) => post u) below args s 0 0) (F0 m 6 ls []) := by
  obtain ⟨S0, hr, hlocks, hK, hZ, hA⟩ := id X
  obtain ⟨hx, hb, hml, hown, hts⟩ := id S0
  intro n
  induction n with
  | zero =>
    intro H locs ls y1 v_m I hl h
    unfold PX9_readsAll_L6 at h
    exact h.elim
  | succ n ih =>
    intro H locs ls y1 v_m I hl h
    unfold PX9_readsAll_L6 at h
    refine lv_iload_n hx hb (kn_dec tX9_readsAll 4 rfl) rfl (lv_at hl 1 rfl) ?_
    refine lv_bipush (v := (8)) hx hb (kn_dec tX9_readsAll 5 rfl) (by decide) ?_
    refine lv_icmp_ge (tgt := 35) hx hb (kn_dec tX9_readsAll 6 rfl) (by decide) (fun c1 => ?_) (fun c1 => ?_)
    · have h := h.1 c1
      refine lv_iconst (v := (0)) hx hb (kn_dec tX9_readsAll 19 rfl) (by decide) ?_
      refine lv_istore_n (lv' := [(1, .int _), (0, .ref (ad_m 0))]) hx hb (kn_dec tX9_readsAll 20 rfl) rfl hl (by decide) rfl (fun ls hl => ?_)
      refine lv_iconst (v := (1)) hx hb (kn_dec tX9_readsAll 21 rfl) (by decide) ?_
      refine lv_istore_n (lv' := [(2, .int _), (1, .int _), (0, .ref (ad_m 0))]) hx hb (kn_dec tX9_readsAll 22 rfl) rfl hl (by decide) rfl (fun ls hl => ?_)
      obtain ⟨n2, h⟩ := h
      exact wX9_readsAll_L39 X n2 _ _ _ _ _ _ (Or.inr rfl) I (lv_sub hl [2, 1, 0] rfl) h
    · have h := h.2 c1
      refine lv_aload_n hx hb (kn_dec tX9_readsAll 7 rfl) rfl (lv_at hl 0 rfl) ?_
      refine kw_getl hx hb hts inX9 hown hK I 0 rfl rfl 20 (by decide) rfl (hts _ q4_220) (kn_dec tX9_readsAll 8 rfl) rfl ?_
      refine lv_iload_n hx hb (kn_dec tX9_readsAll 9 rfl) rfl (lv_at hl 1 rfl) ?_
      refine lv_iload_n hx hb (kn_dec tX9_readsAll 10 rfl) rfl (lv_at hl 1 rfl) ?_
      refine lv_bipush (v := (7)) hx hb (kn_dec tX9_readsAll 11 rfl) (by decide) ?_
      refine lv_icmp_ne (tgt := 27) hx hb (kn_dec tX9_readsAll 12 rfl) (by decide) (fun c3 => ?_) (fun c3 => ?_)
      · have h := h.1 c3
        refine lv_iconst (v := (0)) hx hb (kn_dec tX9_readsAll 15 rfl) (by decide) ?_
        obtain ⟨hs4, h⟩ := h
        refine kw_iast hx hb hK I 0 rfl 20 8 (List.mem_of_getElem? (i := 19) rfl) ukModel_20 hs4 (kn_dec tX9_readsAll 16 rfl) (fun v_m5 ev_m5 H locs I => ?_)
        have h := h v_m5 ev_m5
        have I : kn_I D tc (kn_A w0 s.heap.size) s.heap [(kModel, ad_m, _)] _ _ := I
        refine kw_iinc (lvf := fun y => [(1, .int y), (0, .ref (ad_m 0))]) (nv := (1)) hx hb (kn_dec tX9_readsAll 17 rfl) hl (k := 1) rfl (by decide) (by decide) (fun _ => rfl) (fun x6 ex6 ls hl => ?_)
        have h := h x6 ex6
        refine lv_goto (tgt := 6) hx hb (kn_dec tX9_readsAll 18 rfl) (by decide) ?_
        exact ih _ _ _ _ _  I (lv_sub hl [1, 0] rfl) h
      · have h := h.2 c3
        refine lv_iconst (v := (-1)) hx hb (kn_dec tX9_readsAll 13 rfl) (by decide) ?_
        refine lv_goto (tgt := 28) hx hb (kn_dec tX9_readsAll 14 rfl) (by decide) ?_
        obtain ⟨hs7, h⟩ := h
        refine kw_iast hx hb hK I 0 rfl 20 8 (List.mem_of_getElem? (i := 19) rfl) ukModel_20 hs7 (kn_dec tX9_readsAll 16 rfl) (fun v_m8 ev_m8 H locs I => ?_)
        have h := h v_m8 ev_m8
        have I : kn_I D tc (kn_A w0 s.heap.size) s.heap [(kModel, ad_m, _)] _ _ := I
        refine kw_iinc (lvf := fun y => [(1, .int y), (0, .ref (ad_m 0))]) (nv := (1)) hx hb (kn_dec tX9_readsAll 17 rfl) hl (k := 1) rfl (by decide) (by decide) (fun _ => rfl) (fun x9 ex9 ls hl => ?_)
        have h := h x9 ex9
        refine lv_goto (tgt := 6) hx hb (kn_dec tX9_readsAll 18 rfl) (by decide) ?_
        exact ih _ _ _ _ _  I (lv_sub hl [1, 0] rfl) h
def PX9_readsAll  (v_m : OV) (post : OV → Prop) : Prop := (PX9_starts v_m (fun v_m1 => (∃ n3 : Nat, PX9_readsAll_L6 post n3 ((0 : Int32)) v_m1)))
set_option maxRecDepth 100000 in
set_option maxHeartbeats 1000000 in
theorem ctX9_readsAll {l : Launch} {D : va_G} {tc : Nat → ClassId} {Z : (Nat → Nat) × (Nat → Nat)}  {ad_m : Nat → Nat} {v_m : OV}    {post : OV → Prop} (h : PX9_readsAll  v_m post) : CTv l D tc Z yX9_readsAll (Cond.code yX9_readsAll cX9_readsAll 3 none :: kn_all) rmX9_readsAll 0 0 [.ref (ad_m 0)] [(kModel, ad_m, v_m)] (fun (u : OV) => [(kModel, ad_m, u)]) (fun (u : OV) => post u) := by
  refine kn_ofv (cc := cX9_readsAll) (nL := 3) (ret := none) (lv := [(0, .ref (ad_m 0))]) (by decide) (Nat.le_of_ble_eq_true rfl) rfl (fun p e s m below meth c ls X I hl _ => ?_)
  obtain ⟨S0, hr, hlocks, hK, hZ, hA⟩ := id X
  obtain ⟨hx, hb, hml, hown, hts⟩ := id S0
  unfold PX9_readsAll at h
  refine lv_aload_n hx hb (kn_dec tX9_readsAll 0 rfl) rfl (lv_at hl 0 rfl) ?_
  refine kw_callv (wc := [(kModel, ad_m, _)]) (wr := []) I hA [0] [] rfl rfl (by decide) (by decide) (kn_runV (As := []) S0 hK hZ hA I ((ctX9_starts h).met _) (kn_cwV 0 hts q5_183 q5_185 q0_31 q1_10 q5_186 rfl rfl (by decide +kernel) ⟨(Nat.le_of_ble_eq_true rfl), (Nat.le_of_ble_eq_true rfl)⟩) [0] rfl (by decide) 0 rfl rfl rfl rfl hl.1 rfl (Nat.le_of_ble_eq_true rfl) (kn_dec tX9_readsAll 1 rfl) ⟨(Nat.le_of_ble_eq_true rfl), (Nat.le_of_ble_eq_true rfl)⟩) (fun u2 H locs h I => ?_)
  have I : kn_I D tc (kn_A _ s.heap.size) s.heap [(kModel, ad_m, _)] _ _ := I
  refine lv_iconst (v := (0)) hx hb (kn_dec tX9_readsAll 2 rfl) (by decide) ?_
  refine lv_istore_n (lv' := [(1, .int _), (0, .ref (ad_m 0))]) hx hb (kn_dec tX9_readsAll 3 rfl) rfl hl (by decide) rfl (fun ls hl => ?_)
  obtain ⟨n3, h⟩ := h
  exact wX9_readsAll_L6 X n3 _ _ _ _ _  I (lv_sub hl [1, 0] rfl) h

/-! X9_hill -/
abbrev rmX9_hill : Room := { frames := 8, cells := 0, slots := 0, locals := 180 }
def PX9_hill_L21   (post : Int32 → OV → Prop) : Nat → Int32 → OV → Prop
  | 0, _, _ => False
  | n + 1, y1, v_m => ((((10 : Int32)) ≤ y1 → (PX9_copies v_m 21 10 2 10 (fun v_m2 => (PX9_copies v_m2 22 10 3 10 (fun v_m4 => (PX9_copies v_m4 23 10 4 10 (fun v_m6 => (PX9_copies v_m6 24 6 17 6 (fun v_m8 => (PX9_copies v_m8 25 4 7 4 (fun v_m10 => (PX9_copies v_m10 26 4 8 4 (fun v_m12 => (PX9_copies v_m12 27 4 18 4 (fun v_m14 => (PX9_copies v_m14 28 4 10 4 (fun v_m16 => (PX9_copies v_m16 29 8 14 8 (fun v_m18 => (∀ x20 : Int32, x20 = (v_m18.2.1 20 ((0 : Int32)).toNatClampNeg) → (∀ v_m21 : OV, v_m21 = sa v_m18 19 (upd (v_m18.2.1 19) ((0 : Int32)).toNatClampNeg x20) → (∀ x22 : Int32, x22 = (v_m21.2.1 20 ((7 : Int32)).toNatClampNeg) → (∀ v_m23 : OV, v_m23 = sa v_m21 19 (upd (v_m21.2.1 19) ((1 : Int32)).toNatClampNeg x22) → (PX9_begins v_m23 (fun v_m24 => (∀ v_m26 : OV, v_m26 = si v_m24 57 ((0 : Int32)) → post (v_m26.2.1 1 ((3 : Int32)).toNatClampNeg) v_m26)))))))))))))))))))))))))) ∧ (¬ ((10 : Int32)) ≤ y1 → ((((8 : Int32)) ≤ y1 → (vp_in y1 12 ∧ (∀ v_m29 : OV, v_m29 = sa v_m 1 (upd (v_m.2.1 1) y1.toNatClampNeg ((0 : Int32))) → (∀ x30 : Int32, x30 = y1 + (1 : Int32) → PX9_hill_L21 post n x30 v_m29)))) ∧ (¬ ((8 : Int32)) ≤ y1 → (vp_in y1 8 ∧ (∀ x32 : Int32, x32 = (v_m.2.1 20 y1.toNatClampNeg) → (vp_in y1 12 ∧ (∀ v_m34 : OV, v_m34 = sa v_m 1 (upd (v_m.2.1 1) y1.toNatClampNeg x32) → (∀ x35 : Int32, x35 = y1 + (1 : Int32) → PX9_hill_L21 post n x35 v_m34)))))))))
set_option maxRecDepth 100000 in
set_option maxHeartbeats 1000000 in
theorem wX9_hill_L21   {post : Int32 → OV → Prop} {ad_m : Nat → Nat} (X : kn_X p s m args meth c cX9_hill 2 (some .int) RX9 kn_all D tc Z (kn_A w0 s.heap.size))    : ∀ n : Nat, ∀ (H : Heap) (locs : List Loc) (ls : Array Slot) (y1 : Int32) (v_m : OV), kn_I D tc (kn_A w0 s.heap.size) s.heap [(kModel, ad_m, v_m)] H locs → lv_has ls 2 [(0, .ref (ad_m 0)), (1, .int y1)] → PX9_hill_L21 post n y1 v_m → W p l e rmX9_hill s m args below meth c H locs 0 0 (kn_Qi D tc w0 (fun (u : OV) => [(kModel, ad_m, u)]) (fun (r : Int32) (u : OV) => post r u) below args s 0 0) (F0 m 21 ls []) := by
  obtain ⟨S0, hr, hlocks, hK, hZ, hA⟩ := id X
  obtain ⟨hx, hb, hml, hown, hts⟩ := id S0
  intro n
  induction n with
  | zero =>
    intro H locs ls y1 v_m I hl h
    unfold PX9_hill_L21 at h
    exact h.elim
  | succ n ih =>
    intro H locs ls y1 v_m I hl h
    unfold PX9_hill_L21 at h
    refine lv_iload_n hx hb (kn_dec tX9_hill_t0 12 rfl) rfl (lv_at hl 1 rfl) ?_
    refine lv_bipush (v := (10)) hx hb (kn_dec tX9_hill_t0 13 rfl) (by decide) ?_
    refine lv_icmp_ge (tgt := 55) hx hb (kn_dec tX9_hill_t0 14 rfl) (by decide) (fun c1 => ?_) (fun c1 => ?_)
    · have h := h.1 c1
      refine lv_aload_n hx hb (kn_dec tX9_hill_t0 30 rfl) rfl (lv_at hl 0 rfl) ?_
      refine kw_getl hx hb hts inX9 hown hK I 0 rfl rfl 21 (by decide) rfl (hts _ q4_221) (kn_dec tX9_hill_t0 31 rfl) rfl ?_
      refine lv_aload_n hx hb (kn_dec tX9_hill_t0 32 rfl) rfl (lv_at hl 0 rfl) ?_
      refine kw_getl hx hb hts inX9 hown hK I 0 rfl rfl 2 (by decide) rfl (hts _ q4_202) (kn_dec tX9_hill_t0 33 rfl) rfl ?_
      refine kw_callv (wc := [(kModel, ad_m, _)]) (wr := []) I hA [0] [] rfl rfl (by decide) (by decide) (kn_runS (As := [.ref (ad_m (21 + 1)), .ref (ad_m (2 + 1))]) S0 hK hZ hA I ((ctX9_copies (List.mem_of_getElem? (i := 20) rfl) ukModel_21 (List.mem_of_getElem? (i := 1) rfl) ukModel_2 h).met _) (kn_cwS 2 hts q6_12 q6_13 q1_10 q6_14 rfl rfl (by decide +kernel) ⟨(Nat.le_of_ble_eq_true rfl), (Nat.le_of_ble_eq_true rfl)⟩) [0] rfl (by decide) rfl hl.1 rfl (Nat.le_of_ble_eq_true rfl) (kn_dec tX9_hill_t0 34 rfl) ⟨(Nat.le_of_ble_eq_true rfl), (Nat.le_of_ble_eq_true rfl)⟩) (fun u3 H locs h I => ?_)
      have I : kn_I D tc (kn_A w0 s.heap.size) s.heap [(kModel, ad_m, _)] _ _ := I
      refine lv_aload_n hx hb (kn_dec tX9_hill_t0 35 rfl) rfl (lv_at hl 0 rfl) ?_
      refine kw_getl hx hb hts inX9 hown hK I 0 rfl rfl 22 (by decide) rfl (hts _ q4_222) (kn_dec tX9_hill_t0 36 rfl) rfl ?_
      refine lv_aload_n hx hb (kn_dec tX9_hill_t0 37 rfl) rfl (lv_at hl 0 rfl) ?_
      refine kw_getl hx hb hts inX9 hown hK I 0 rfl rfl 3 (by decide) rfl (hts _ q4_203) (kn_dec tX9_hill_t0 38 rfl) rfl ?_
      refine kw_callv (wc := [(kModel, ad_m, _)]) (wr := []) I hA [0] [] rfl rfl (by decide) (by decide) (kn_runS (As := [.ref (ad_m (22 + 1)), .ref (ad_m (3 + 1))]) S0 hK hZ hA I ((ctX9_copies (List.mem_of_getElem? (i := 21) rfl) ukModel_22 (List.mem_of_getElem? (i := 2) rfl) ukModel_3 h).met _) (kn_cwS 2 hts q6_12 q6_13 q1_10 q6_14 rfl rfl (by decide +kernel) ⟨(Nat.le_of_ble_eq_true rfl), (Nat.le_of_ble_eq_true rfl)⟩) [0] rfl (by decide) rfl hl.1 rfl (Nat.le_of_ble_eq_true rfl) (kn_dec tX9_hill_t0 39 rfl) ⟨(Nat.le_of_ble_eq_true rfl), (Nat.le_of_ble_eq_true rfl)⟩) (fun u5 H locs h I => ?_)
      have I : kn_I D tc (kn_A w0 s.heap.size) s.heap [(kModel, ad_m, _)] _ _ := I
      refine lv_aload_n hx hb (kn_dec tX9_hill_t0 40 rfl) rfl (lv_at hl 0 rfl) ?_
      refine kw_getl hx hb hts inX9 hown hK I 0 rfl rfl 23 (by decide) rfl (hts _ q4_223) (kn_dec tX9_hill_t0 41 rfl) rfl ?_
      refine lv_aload_n hx hb (kn_dec tX9_hill_t0 42 rfl) rfl (lv_at hl 0 rfl) ?_
      refine kw_getl hx hb hts inX9 hown hK I 0 rfl rfl 4 (by decide) rfl (hts _ q4_204) (kn_dec tX9_hill_t0 43 rfl) rfl ?_
      refine kw_callv (wc := [(kModel, ad_m, _)]) (wr := []) I hA [0] [] rfl rfl (by decide) (by decide) (kn_runS (As := [.ref (ad_m (23 + 1)), .ref (ad_m (4 + 1))]) S0 hK hZ hA I ((ctX9_copies (List.mem_of_getElem? (i := 22) rfl) ukModel_23 (List.mem_of_getElem? (i := 3) rfl) ukModel_4 h).met _) (kn_cwS 2 hts q6_12 q6_13 q1_10 q6_14 rfl rfl (by decide +kernel) ⟨(Nat.le_of_ble_eq_true rfl), (Nat.le_of_ble_eq_true rfl)⟩) [0] rfl (by decide) rfl hl.1 rfl (Nat.le_of_ble_eq_true rfl) (kn_dec tX9_hill_t0 44 rfl) ⟨(Nat.le_of_ble_eq_true rfl), (Nat.le_of_ble_eq_true rfl)⟩) (fun u7 H locs h I => ?_)
      have I : kn_I D tc (kn_A w0 s.heap.size) s.heap [(kModel, ad_m, _)] _ _ := I
      refine lv_aload_n hx hb (kn_dec tX9_hill_t0 45 rfl) rfl (lv_at hl 0 rfl) ?_
      refine kw_getl hx hb hts inX9 hown hK I 0 rfl rfl 24 (by decide) rfl (hts _ q4_224) (kn_dec tX9_hill_t0 46 rfl) rfl ?_
      refine lv_aload_n hx hb (kn_dec tX9_hill_t0 47 rfl) rfl (lv_at hl 0 rfl) ?_
      refine kw_getl hx hb hts inX9 hown hK I 0 rfl rfl 17 (by decide) rfl (hts _ q4_217) (kn_dec tX9_hill_t0 48 rfl) rfl ?_
      refine kw_callv (wc := [(kModel, ad_m, _)]) (wr := []) I hA [0] [] rfl rfl (by decide) (by decide) (kn_runS (As := [.ref (ad_m (24 + 1)), .ref (ad_m (17 + 1))]) S0 hK hZ hA I ((ctX9_copies (List.mem_of_getElem? (i := 23) rfl) ukModel_24 (List.mem_of_getElem? (i := 16) rfl) ukModel_17 h).met _) (kn_cwS 2 hts q6_12 q6_13 q1_10 q6_14 rfl rfl (by decide +kernel) ⟨(Nat.le_of_ble_eq_true rfl), (Nat.le_of_ble_eq_true rfl)⟩) [0] rfl (by decide) rfl hl.1 rfl (Nat.le_of_ble_eq_true rfl) (kn_dec tX9_hill_t0 49 rfl) ⟨(Nat.le_of_ble_eq_true rfl), (Nat.le_of_ble_eq_true rfl)⟩) (fun u9 H locs h I => ?_)
      have I : kn_I D tc (kn_A w0 s.heap.size) s.heap [(kModel, ad_m, _)] _ _ := I
      refine lv_aload_n hx hb (kn_dec tX9_hill_t0 50 rfl) rfl (lv_at hl 0 rfl) ?_
      refine kw_getl hx hb hts inX9 hown hK I 0 rfl rfl 25 (by decide) rfl (hts _ q4_225) (kn_dec tX9_hill_t0 51 rfl) rfl ?_
      refine lv_aload_n hx hb (kn_dec tX9_hill_t0 52 rfl) rfl (lv_at hl 0 rfl) ?_
      refine kw_getl hx hb hts inX9 hown hK I 0 rfl rfl 7 (by decide) rfl (hts _ q4_207) (kn_dec tX9_hill_t0 53 rfl) rfl ?_
      refine kw_callv (wc := [(kModel, ad_m, _)]) (wr := []) I hA [0] [] rfl rfl (by decide) (by decide) (kn_runS (As := [.ref (ad_m (25 + 1)), .ref (ad_m (7 + 1))]) S0 hK hZ hA I ((ctX9_copies (List.mem_of_getElem? (i := 24) rfl) ukModel_25 (List.mem_of_getElem? (i := 6) rfl) ukModel_7 h).met _) (kn_cwS 2 hts q6_12 q6_13 q1_10 q6_14 rfl rfl (by decide +kernel) ⟨(Nat.le_of_ble_eq_true rfl), (Nat.le_of_ble_eq_true rfl)⟩) [0] rfl (by decide) rfl hl.1 rfl (Nat.le_of_ble_eq_true rfl) (kn_dec tX9_hill_t0 54 rfl) ⟨(Nat.le_of_ble_eq_true rfl), (Nat.le_of_ble_eq_true rfl)⟩) (fun u11 H locs h I => ?_)
      have I : kn_I D tc (kn_A w0 s.heap.size) s.heap [(kModel, ad_m, _)] _ _ := I
      refine lv_aload_n hx hb (kn_dec tX9_hill_t0 55 rfl) rfl (lv_at hl 0 rfl) ?_
      refine kw_getl hx hb hts inX9 hown hK I 0 rfl rfl 26 (by decide) rfl (hts _ q4_226) (kn_dec tX9_hill_t0 56 rfl) rfl ?_
      refine lv_aload_n hx hb (kn_dec tX9_hill_t0 57 rfl) rfl (lv_at hl 0 rfl) ?_
      refine kw_getl hx hb hts inX9 hown hK I 0 rfl rfl 8 (by decide) rfl (hts _ q4_208) (kn_dec tX9_hill_t0 58 rfl) rfl ?_
      refine kw_callv (wc := [(kModel, ad_m, _)]) (wr := []) I hA [0] [] rfl rfl (by decide) (by decide) (kn_runS (As := [.ref (ad_m (26 + 1)), .ref (ad_m (8 + 1))]) S0 hK hZ hA I ((ctX9_copies (List.mem_of_getElem? (i := 25) rfl) ukModel_26 (List.mem_of_getElem? (i := 7) rfl) ukModel_8 h).met _) (kn_cwS 2 hts q6_12 q6_13 q1_10 q6_14 rfl rfl (by decide +kernel) ⟨(Nat.le_of_ble_eq_true rfl), (Nat.le_of_ble_eq_true rfl)⟩) [0] rfl (by decide) rfl hl.1 rfl (Nat.le_of_ble_eq_true rfl) (kn_dec tX9_hill_t0 59 rfl) ⟨(Nat.le_of_ble_eq_true rfl), (Nat.le_of_ble_eq_true rfl)⟩) (fun u13 H locs h I => ?_)
      have I : kn_I D tc (kn_A w0 s.heap.size) s.heap [(kModel, ad_m, _)] _ _ := I
      refine lv_aload_n hx hb (kn_dec tX9_hill_t1 0 rfl) rfl (lv_at hl 0 rfl) ?_
      refine kw_getl hx hb hts inX9 hown hK I 0 rfl rfl 27 (by decide) rfl (hts _ q4_227) (kn_dec tX9_hill_t1 1 rfl) rfl ?_
      refine lv_aload_n hx hb (kn_dec tX9_hill_t1 2 rfl) rfl (lv_at hl 0 rfl) ?_
      refine kw_getl hx hb hts inX9 hown hK I 0 rfl rfl 18 (by decide) rfl (hts _ q4_218) (kn_dec tX9_hill_t1 3 rfl) rfl ?_
      refine kw_callv (wc := [(kModel, ad_m, _)]) (wr := []) I hA [0] [] rfl rfl (by decide) (by decide) (kn_runS (As := [.ref (ad_m (27 + 1)), .ref (ad_m (18 + 1))]) S0 hK hZ hA I ((ctX9_copies (List.mem_of_getElem? (i := 26) rfl) ukModel_27 (List.mem_of_getElem? (i := 17) rfl) ukModel_18 h).met _) (kn_cwS 2 hts q6_12 q6_13 q1_10 q6_14 rfl rfl (by decide +kernel) ⟨(Nat.le_of_ble_eq_true rfl), (Nat.le_of_ble_eq_true rfl)⟩) [0] rfl (by decide) rfl hl.1 rfl (Nat.le_of_ble_eq_true rfl) (kn_dec tX9_hill_t1 4 rfl) ⟨(Nat.le_of_ble_eq_true rfl), (Nat.le_of_ble_eq_true rfl)⟩) (fun u15 H locs h I => ?_)
      have I : kn_I D tc (kn_A w0 s.heap.size) s.heap [(kModel, ad_m, _)] _ _ := I
      refine lv_aload_n hx hb (kn_dec tX9_hill_t1 5 rfl) rfl (lv_at hl 0 rfl) ?_
      refine kw_getl hx hb hts inX9 hown hK I 0 rfl rfl 28 (by decide) rfl (hts _ q4_228) (kn_dec tX9_hill_t1 6 rfl) rfl ?_
      refine lv_aload_n hx hb (kn_dec tX9_hill_t1 7 rfl) rfl (lv_at hl 0 rfl) ?_
      refine kw_getl hx hb hts inX9 hown hK I 0 rfl rfl 10 (by decide) rfl (hts _ q4_210) (kn_dec tX9_hill_t1 8 rfl) rfl ?_
      refine kw_callv (wc := [(kModel, ad_m, _)]) (wr := []) I hA [0] [] rfl rfl (by decide) (by decide) (kn_runS (As := [.ref (ad_m (28 + 1)), .ref (ad_m (10 + 1))]) S0 hK hZ hA I ((ctX9_copies (List.mem_of_getElem? (i := 27) rfl) ukModel_28 (List.mem_of_getElem? (i := 9) rfl) ukModel_10 h).met _) (kn_cwS 2 hts q6_12 q6_13 q1_10 q6_14 rfl rfl (by decide +kernel) ⟨(Nat.le_of_ble_eq_true rfl), (Nat.le_of_ble_eq_true rfl)⟩) [0] rfl (by decide) rfl hl.1 rfl (Nat.le_of_ble_eq_true rfl) (kn_dec tX9_hill_t1 9 rfl) ⟨(Nat.le_of_ble_eq_true rfl), (Nat.le_of_ble_eq_true rfl)⟩) (fun u17 H locs h I => ?_)
      have I : kn_I D tc (kn_A w0 s.heap.size) s.heap [(kModel, ad_m, _)] _ _ := I
      refine lv_aload_n hx hb (kn_dec tX9_hill_t1 10 rfl) rfl (lv_at hl 0 rfl) ?_
      refine kw_getl hx hb hts inX9 hown hK I 0 rfl rfl 29 (by decide) rfl (hts _ q4_229) (kn_dec tX9_hill_t1 11 rfl) rfl ?_
      refine lv_aload_n hx hb (kn_dec tX9_hill_t1 12 rfl) rfl (lv_at hl 0 rfl) ?_
      refine kw_getl hx hb hts inX9 hown hK I 0 rfl rfl 14 (by decide) rfl (hts _ q4_214) (kn_dec tX9_hill_t1 13 rfl) rfl ?_
      refine kw_callv (wc := [(kModel, ad_m, _)]) (wr := []) I hA [0] [] rfl rfl (by decide) (by decide) (kn_runS (As := [.ref (ad_m (29 + 1)), .ref (ad_m (14 + 1))]) S0 hK hZ hA I ((ctX9_copies (List.mem_of_getElem? (i := 28) rfl) ukModel_29 (List.mem_of_getElem? (i := 13) rfl) ukModel_14 h).met _) (kn_cwS 2 hts q6_12 q6_13 q1_10 q6_14 rfl rfl (by decide +kernel) ⟨(Nat.le_of_ble_eq_true rfl), (Nat.le_of_ble_eq_true rfl)⟩) [0] rfl (by decide) rfl hl.1 rfl (Nat.le_of_ble_eq_true rfl) (kn_dec tX9_hill_t1 14 rfl) ⟨(Nat.le_of_ble_eq_true rfl), (Nat.le_of_ble_eq_true rfl)⟩) (fun u19 H locs h I => ?_)
      have I : kn_I D tc (kn_A w0 s.heap.size) s.heap [(kModel, ad_m, _)] _ _ := I
      refine lv_aload_n hx hb (kn_dec tX9_hill_t1 15 rfl) rfl (lv_at hl 0 rfl) ?_
      refine kw_getl hx hb hts inX9 hown hK I 0 rfl rfl 19 (by decide) rfl (hts _ q4_219) (kn_dec tX9_hill_t1 16 rfl) rfl ?_
      refine lv_iconst (v := (0)) hx hb (kn_dec tX9_hill_t1 17 rfl) (by decide) ?_
      refine lv_aload_n hx hb (kn_dec tX9_hill_t1 18 rfl) rfl (lv_at hl 0 rfl) ?_
      refine kw_getl hx hb hts inX9 hown hK I 0 rfl rfl 20 (by decide) rfl (hts _ q4_220) (kn_dec tX9_hill_t1 19 rfl) rfl ?_
      refine lv_iconst (v := (0)) hx hb (kn_dec tX9_hill_t1 20 rfl) (by decide) ?_
      refine kw_iald hx hb hK I 0 rfl 20 8 (List.mem_of_getElem? (i := 19) rfl) (by unfold vp_in; decide) (kn_dec tX9_hill_t1 21 rfl) ?_
      refine lv_topi (fun x20 ex20 => ?_)
      have h := h x20 ex20
      refine kw_iast hx hb hK I 0 rfl 19 2 (List.mem_of_getElem? (i := 18) rfl) ukModel_19 (by unfold vp_in; decide) (kn_dec tX9_hill_t1 22 rfl) (fun v_m21 ev_m21 H locs I => ?_)
      have h := h v_m21 ev_m21
      have I : kn_I D tc (kn_A w0 s.heap.size) s.heap [(kModel, ad_m, _)] _ _ := I
      refine lv_aload_n hx hb (kn_dec tX9_hill_t1 23 rfl) rfl (lv_at hl 0 rfl) ?_
      refine kw_getl hx hb hts inX9 hown hK I 0 rfl rfl 19 (by decide) rfl (hts _ q4_219) (kn_dec tX9_hill_t1 24 rfl) rfl ?_
      refine lv_iconst (v := (1)) hx hb (kn_dec tX9_hill_t1 25 rfl) (by decide) ?_
      refine lv_aload_n hx hb (kn_dec tX9_hill_t1 26 rfl) rfl (lv_at hl 0 rfl) ?_
      refine kw_getl hx hb hts inX9 hown hK I 0 rfl rfl 20 (by decide) rfl (hts _ q4_220) (kn_dec tX9_hill_t1 27 rfl) rfl ?_
      refine lv_bipush (v := (7)) hx hb (kn_dec tX9_hill_t1 28 rfl) (by decide) ?_
      refine kw_iald hx hb hK I 0 rfl 20 8 (List.mem_of_getElem? (i := 19) rfl) (by unfold vp_in; decide) (kn_dec tX9_hill_t1 29 rfl) ?_
      refine lv_topi (fun x22 ex22 => ?_)
      have h := h x22 ex22
      refine kw_iast hx hb hK I 0 rfl 19 2 (List.mem_of_getElem? (i := 18) rfl) ukModel_19 (by unfold vp_in; decide) (kn_dec tX9_hill_t1 30 rfl) (fun v_m23 ev_m23 H locs I => ?_)
      have h := h v_m23 ev_m23
      have I : kn_I D tc (kn_A w0 s.heap.size) s.heap [(kModel, ad_m, _)] _ _ := I
      refine lv_aload_n hx hb (kn_dec tX9_hill_t1 31 rfl) rfl (lv_at hl 0 rfl) ?_
      refine kw_callv (wc := [(kModel, ad_m, _)]) (wr := []) I hA [0] [] rfl rfl (by decide) (by decide) (kn_runV (As := []) S0 hK hZ hA I ((ctX9_begins h).met _) (kn_cwV 0 hts q6_15 q6_17 q0_44 q1_10 q6_18 rfl rfl (by decide +kernel) ⟨(Nat.le_of_ble_eq_true rfl), (Nat.le_of_ble_eq_true rfl)⟩) [0] rfl (by decide) 0 rfl rfl rfl rfl hl.1 rfl (Nat.le_of_ble_eq_true rfl) (kn_dec tX9_hill_t1 32 rfl) ⟨(Nat.le_of_ble_eq_true rfl), (Nat.le_of_ble_eq_true rfl)⟩) (fun u25 H locs h I => ?_)
      have I : kn_I D tc (kn_A w0 s.heap.size) s.heap [(kModel, ad_m, _)] _ _ := I
      refine lv_aload_n hx hb (kn_dec tX9_hill_t1 33 rfl) rfl (lv_at hl 0 rfl) ?_
      refine lv_iconst (v := (0)) hx hb (kn_dec tX9_hill_t1 34 rfl) (by decide) ?_
      refine kw_puti hx hb hts inX9 tyX9 tyX9_ok nmX9 hown hK I 0 rfl rfl 57 (by decide) rfl (hts _ q5_17) rfl rfl rfl (kn_dec tX9_hill_t1 35 rfl) (fun v_m26 ev_m26 H locs I => ?_)
      have h := h v_m26 ev_m26
      have I : kn_I D tc (kn_A w0 s.heap.size) s.heap [(kModel, ad_m, _)] _ _ := I
      refine lv_aload_n hx hb (kn_dec tX9_hill_t1 36 rfl) rfl (lv_at hl 0 rfl) ?_
      refine kw_getl hx hb hts inX9 hown hK I 0 rfl rfl 1 (by decide) rfl (hts _ q4_201) (kn_dec tX9_hill_t1 37 rfl) rfl ?_
      refine lv_iconst (v := (3)) hx hb (kn_dec tX9_hill_t1 38 rfl) (by decide) ?_
      refine kw_iald hx hb hK I 0 rfl 1 12 (List.mem_of_getElem? (i := 0) rfl) (by unfold vp_in; decide) (kn_dec tX9_hill_t1 39 rfl) ?_
      exact kw_iret hx hb hr hlocks I _ rfl h (kn_dec tX9_hill_t1 40 rfl)
    · have h := h.2 c1
      refine lv_aload_n hx hb (kn_dec tX9_hill_t0 15 rfl) rfl (lv_at hl 0 rfl) ?_
      refine kw_getl hx hb hts inX9 hown hK I 0 rfl rfl 1 (by decide) rfl (hts _ q4_201) (kn_dec tX9_hill_t0 16 rfl) rfl ?_
      refine lv_iload_n hx hb (kn_dec tX9_hill_t0 17 rfl) rfl (lv_at hl 1 rfl) ?_
      refine lv_iload_n hx hb (kn_dec tX9_hill_t0 18 rfl) rfl (lv_at hl 1 rfl) ?_
      refine lv_bipush (v := (8)) hx hb (kn_dec tX9_hill_t0 19 rfl) (by decide) ?_
      refine lv_icmp_ge (tgt := 47) hx hb (kn_dec tX9_hill_t0 20 rfl) (by decide) (fun c27 => ?_) (fun c27 => ?_)
      · have h := h.1 c27
        refine lv_iconst (v := (0)) hx hb (kn_dec tX9_hill_t0 26 rfl) (by decide) ?_
        obtain ⟨hs28, h⟩ := h
        refine kw_iast hx hb hK I 0 rfl 1 12 (List.mem_of_getElem? (i := 0) rfl) ukModel_1 hs28 (kn_dec tX9_hill_t0 27 rfl) (fun v_m29 ev_m29 H locs I => ?_)
        have h := h v_m29 ev_m29
        have I : kn_I D tc (kn_A w0 s.heap.size) s.heap [(kModel, ad_m, _)] _ _ := I
        refine kw_iinc (lvf := fun y => [(1, .int y), (0, .ref (ad_m 0))]) (nv := (1)) hx hb (kn_dec tX9_hill_t0 28 rfl) hl (k := 1) rfl (by decide) (by decide) (fun _ => rfl) (fun x30 ex30 ls hl => ?_)
        have h := h x30 ex30
        refine lv_goto (tgt := 21) hx hb (kn_dec tX9_hill_t0 29 rfl) (by decide) ?_
        exact ih _ _ _ _ _  I (lv_sub hl [1, 0] rfl) h
      · have h := h.2 c27
        refine lv_aload_n hx hb (kn_dec tX9_hill_t0 21 rfl) rfl (lv_at hl 0 rfl) ?_
        refine kw_getl hx hb hts inX9 hown hK I 0 rfl rfl 20 (by decide) rfl (hts _ q4_220) (kn_dec tX9_hill_t0 22 rfl) rfl ?_
        refine lv_iload_n hx hb (kn_dec tX9_hill_t0 23 rfl) rfl (lv_at hl 1 rfl) ?_
        obtain ⟨hs31, h⟩ := h
        refine kw_iald hx hb hK I 0 rfl 20 8 (List.mem_of_getElem? (i := 19) rfl) hs31 (kn_dec tX9_hill_t0 24 rfl) ?_
        refine lv_goto (tgt := 48) hx hb (kn_dec tX9_hill_t0 25 rfl) (by decide) ?_
        refine lv_topi (fun x32 ex32 => ?_)
        have h := h x32 ex32
        obtain ⟨hs33, h⟩ := h
        refine kw_iast hx hb hK I 0 rfl 1 12 (List.mem_of_getElem? (i := 0) rfl) ukModel_1 hs33 (kn_dec tX9_hill_t0 27 rfl) (fun v_m34 ev_m34 H locs I => ?_)
        have h := h v_m34 ev_m34
        have I : kn_I D tc (kn_A w0 s.heap.size) s.heap [(kModel, ad_m, _)] _ _ := I
        refine kw_iinc (lvf := fun y => [(1, .int y), (0, .ref (ad_m 0))]) (nv := (1)) hx hb (kn_dec tX9_hill_t0 28 rfl) hl (k := 1) rfl (by decide) (by decide) (fun _ => rfl) (fun x35 ex35 ls hl => ?_)
        have h := h x35 ex35
        refine lv_goto (tgt := 21) hx hb (kn_dec tX9_hill_t0 29 rfl) (by decide) ?_
        exact ih _ _ _ _ _  I (lv_sub hl [1, 0] rfl) h
def PX9_hill  (v_m : OV) (post : Int32 → OV → Prop) : Prop := (PX9_readsAll v_m (fun v_m1 => (((v_m1.1 32) ≤ ((0 : Int32)) → (∃ n4 : Nat, PX9_hill_L21 post n4 ((0 : Int32)) v_m1)) ∧ (¬ (v_m1.1 32) ≤ ((0 : Int32)) → post (((-2 : Int32)) - (v_m1.1 32)) v_m1))))
set_option maxRecDepth 100000 in
set_option maxHeartbeats 1000000 in
theorem ctX9_hill {l : Launch} {D : va_G} {tc : Nat → ClassId} {Z : (Nat → Nat) × (Nat → Nat)}  {ad_m : Nat → Nat} {v_m : OV}    {post : Int32 → OV → Prop} (h : PX9_hill  v_m post) : CTi l D tc Z yX9_hill (Cond.code yX9_hill cX9_hill 2 (some .int) :: kn_all) rmX9_hill 0 0 [.ref (ad_m 0)] [(kModel, ad_m, v_m)] (fun (u : OV) => [(kModel, ad_m, u)]) (fun (r : Int32) (u : OV) => post r u) := by
  refine kn_ofi (cc := cX9_hill) (nL := 2) (ret := (some .int)) (lv := [(0, .ref (ad_m 0))]) (by decide) (Nat.le_of_ble_eq_true rfl) rfl (fun p e s m below meth c ls X I hl _ => ?_)
  obtain ⟨S0, hr, hlocks, hK, hZ, hA⟩ := id X
  obtain ⟨hx, hb, hml, hown, hts⟩ := id S0
  unfold PX9_hill at h
  refine lv_aload_n hx hb (kn_dec tX9_hill_t0 0 rfl) rfl (lv_at hl 0 rfl) ?_
  refine kw_callv (wc := [(kModel, ad_m, _)]) (wr := []) I hA [0] [] rfl rfl (by decide) (by decide) (kn_runV (As := []) S0 hK hZ hA I ((ctX9_readsAll h).met _) (kn_cwV 0 hts q5_179 q5_181 q0_30 q1_10 q5_182 rfl rfl (by decide +kernel) ⟨(Nat.le_of_ble_eq_true rfl), (Nat.le_of_ble_eq_true rfl)⟩) [0] rfl (by decide) 0 rfl rfl rfl rfl hl.1 rfl (Nat.le_of_ble_eq_true rfl) (kn_dec tX9_hill_t0 1 rfl) ⟨(Nat.le_of_ble_eq_true rfl), (Nat.le_of_ble_eq_true rfl)⟩) (fun u2 H locs h I => ?_)
  have I : kn_I D tc (kn_A _ s.heap.size) s.heap [(kModel, ad_m, _)] _ _ := I
  refine lv_aload_n hx hb (kn_dec tX9_hill_t0 2 rfl) rfl (lv_at hl 0 rfl) ?_
  refine kw_geti hx hb hts inX9 hown hK I 0 rfl rfl 32 (by decide) rfl (hts _ q4_232) (kn_dec tX9_hill_t0 3 rfl) ?_
  refine lv_if_le (tgt := 19) hx hb (kn_dec tX9_hill_t0 4 rfl) (by decide) (fun c3 => ?_) (fun c3 => ?_)
  · have h := h.1 c3
    refine lv_iconst (v := (0)) hx hb (kn_dec tX9_hill_t0 10 rfl) (by decide) ?_
    refine lv_istore_n (lv' := [(1, .int _), (0, .ref (ad_m 0))]) hx hb (kn_dec tX9_hill_t0 11 rfl) rfl hl (by decide) rfl (fun ls hl => ?_)
    obtain ⟨n4, h⟩ := h
    exact wX9_hill_L21 X n4 _ _ _ _ _  I (lv_sub hl [1, 0] rfl) h
  · have h := h.2 c3
    refine lv_bipush (v := (-2)) hx hb (kn_dec tX9_hill_t0 5 rfl) (by decide) ?_
    refine lv_aload_n hx hb (kn_dec tX9_hill_t0 6 rfl) rfl (lv_at hl 0 rfl) ?_
    refine kw_geti hx hb hts inX9 hown hK I 0 rfl rfl 32 (by decide) rfl (hts _ q4_232) (kn_dec tX9_hill_t0 7 rfl) ?_
    refine lv_isub hx hb (kn_dec tX9_hill_t0 8 rfl) ?_
    exact kw_iret hx hb hr hlocks I _ rfl h (kn_dec tX9_hill_t0 9 rfl)

end
