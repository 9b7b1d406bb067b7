section
variable {p : Program} {l : Launch} {e : Env} {s : State} {m : MethodId} {args : Array Value} {below : List Frame} {meth : Method} {c : Code} {D : va_G} {tc : Nat → ClassId} {Z : (Nat → Nat) × (Nat → Nat)} {w0 : List CH}

/-! X8_holds -/
abbrev rmX8_holds : Room := { frames := 0, cells := 0, slots := 0, locals := 0 }
def PX8_holds  (v_t : OV) (v_c : OV) (a1 : Int32) (a2 : Int32) (post : Int32 → Prop) : Prop := (vp_in a2 7 ∧ (a2.toNatClampNeg < 7 ∧ (vp_in a1 10 ∧ (vp_in (v_c.2.1 9 a1.toNatClampNeg) 4 ∧ (vp_in a1 10 ∧ ((¬ (v_t.2.1 (100 + a2.toNatClampNeg) (v_c.2.1 9 a1.toNatClampNeg).toNatClampNeg) = (v_c.2.1 8 a1.toNatClampNeg) → post ((0 : Int32))) ∧ ((v_t.2.1 (100 + a2.toNatClampNeg) (v_c.2.1 9 a1.toNatClampNeg).toNatClampNeg) = (v_c.2.1 8 a1.toNatClampNeg) → post ((1 : Int32)))))))))
set_option maxRecDepth 100000 in
set_option maxHeartbeats 1000000 in
theorem ctX8_holds {l : Launch} {D : va_G} {tc : Nat → ClassId} {Z : (Nat → Nat) × (Nat → Nat)}  {ad_t : Nat → Nat} {ad_c : Nat → Nat} {v_t : OV} {v_c : OV} {a1 : Int32} {a2 : Int32} (e_t_6 : ad_t (6 + 1) = ad_c 0) (g_t_10 : ∀ i, i < 7 → kn_q ad_t 10 i = some (ad_t (100 + i + 1)))   {post : Int32 → Prop} (h : PX8_holds  v_t v_c a1 a2 post) : CTi l D tc Z yX8_holds (Cond.code yX8_holds cX8_holds 3 (some .boolean) :: kn_all) rmX8_holds 0 0 [.ref (ad_t 0), .int a1, .int a2] [(kTin, ad_t, v_t), (kScene, ad_c, v_c)] (fun (u : Unit) => [(kTin, ad_t, v_t), (kScene, ad_c, v_c)]) (fun (r : Int32) (u : Unit) => (r = 0 ∨ r = 1) ∧ post r) := by
  refine kn_ofi (cc := cX8_holds) (nL := 3) (ret := (some .boolean)) (lv := [(0, .ref (ad_t 0)), (1, .int a1), (2, .int a2)]) (by decide) (Nat.le_of_ble_eq_true rfl) rfl (fun p e s m below meth c ls X I hl _ => ?_)
  obtain ⟨S0, hr, hlocks, hK, hZ, hA⟩ := id X
  obtain ⟨hx, hb, hml, hown, hts⟩ := id S0
  unfold PX8_holds at h
  refine lv_aload_n hx hb (kn_dec tX8_holds 0 rfl) rfl (lv_at hl 0 rfl) ?_
  refine kw_getl hx hb hts inX8 hown hK I 0 rfl rfl 10 (by decide) rfl (hts _ q2_109) (kn_dec tX8_holds 1 rfl) rfl ?_
  refine lv_iload_n hx hb (kn_dec tX8_holds 2 rfl) rfl (lv_at hl 2 rfl) ?_
  obtain ⟨hs1, h⟩ := h
  obtain ⟨hp2, h⟩ := h
  refine kw_gald hx hb hK I 0 rfl 10 7 (List.mem_of_getElem? (i := 3) rfl) hs1 (kn_dec tX8_holds 3 rfl) (g_t_10 _ hp2) ?_
  refine lv_aload_n hx hb (kn_dec tX8_holds 4 rfl) rfl (lv_at hl 0 rfl) ?_
  refine kw_getl hx hb hts inX8 hown hK I 0 rfl rfl 6 (by decide) rfl (hts _ q2_105) (kn_dec tX8_holds 5 rfl) e_t_6 ?_
  refine kw_getl hx hb hts inX5 hown hK I 1 rfl rfl 9 (by decide) rfl (hts _ q2_44) (kn_dec tX8_holds 6 rfl) rfl ?_
  refine lv_iload_n hx hb (kn_dec tX8_holds 7 rfl) rfl (lv_at hl 1 rfl) ?_
  obtain ⟨hs3, h⟩ := h
  refine kw_iald hx hb hK I 1 rfl 9 10 (List.mem_of_getElem? (i := 2) rfl) hs3 (kn_dec tX8_holds 8 rfl) ?_
  obtain ⟨hs4, h⟩ := h
  refine kw_iald hx hb hK I 0 rfl (100 + a2.toNatClampNeg) 4 (kTin_gm _ hp2) hs4 (kn_dec tX8_holds 9 rfl) ?_
  refine lv_aload_n hx hb (kn_dec tX8_holds 10 rfl) rfl (lv_at hl 0 rfl) ?_
  refine kw_getl hx hb hts inX8 hown hK I 0 rfl rfl 6 (by decide) rfl (hts _ q2_105) (kn_dec tX8_holds 11 rfl) e_t_6 ?_
  refine kw_getl hx hb hts inX5 hown hK I 1 rfl rfl 8 (by decide) rfl (hts _ q2_42) (kn_dec tX8_holds 12 rfl) rfl ?_
  refine lv_iload_n hx hb (kn_dec tX8_holds 13 rfl) rfl (lv_at hl 1 rfl) ?_
  obtain ⟨hs5, h⟩ := h
  refine kw_iald hx hb hK I 1 rfl 8 10 (List.mem_of_getElem? (i := 1) rfl) hs5 (kn_dec tX8_holds 14 rfl) ?_
  refine lv_icmp_ne (tgt := 32) hx hb (kn_dec tX8_holds 15 rfl) (by decide) (fun c6 => ?_) (fun c6 => ?_)
  · have h := h.1 c6
    refine lv_iconst (v := (0)) hx hb (kn_dec tX8_holds 18 rfl) (by decide) ?_
    exact kw_zret hx hb hr (kn_nz (Or.inl rfl)) hlocks I () rfl ⟨(Or.inl rfl), h⟩ (kn_dec tX8_holds 19 rfl)
  · have h := h.2 c6
    refine lv_iconst (v := (1)) hx hb (kn_dec tX8_holds 16 rfl) (by decide) ?_
    refine lv_goto (tgt := 33) hx hb (kn_dec tX8_holds 17 rfl) (by decide) ?_
    exact kw_zret hx hb hr (kn_nz (Or.inr rfl)) hlocks I () rfl ⟨(Or.inr rfl), h⟩ (kn_dec tX8_holds 19 rfl)

/-! X8_isAsNamed -/
abbrev rmX8_isAsNamed : Room := { frames := 1, cells := 0, slots := 0, locals := 22 }
def PX8_isAsNamed_L2 (v_t : OV) (v_c : OV)  (post : Int32 → Prop) : Nat → Int32 → Int32 → Prop
  | 0, _, _ => False
  | n + 1, y1, y2 => (((v_c.1 7) ≤ y2 → post ((1 : Int32))) ∧ (¬ (v_c.1 7) ≤ y2 → (PX8_holds v_t v_c y2 y1 (fun r2 => ((¬ r2 = ((0 : Int32)) → (∀ x5 : Int32, x5 = y2 + (1 : Int32) → PX8_isAsNamed_L2 v_t v_c post n y1 x5)) ∧ (r2 = ((0 : Int32)) → post ((0 : Int32))))))))
set_option maxRecDepth 100000 in
set_option maxHeartbeats 1000000 in
theorem wX8_isAsNamed_L2 {v_t : OV} {v_c : OV}  {post : Int32 → Prop} {ad_t : Nat → Nat} {ad_c : Nat → Nat} (X : kn_X p s m args meth c cX8_isAsNamed 3 (some .boolean) RX8 kn_all D tc Z (kn_A w0 s.heap.size)) (e_t_6 : ad_t (6 + 1) = ad_c 0) (g_t_10 : ∀ i, i < 7 → kn_q ad_t 10 i = some (ad_t (100 + i + 1)))   : ∀ n : Nat, ∀ (H : Heap) (locs : List Loc) (ls : Array Slot) (y1 : Int32) (y2 : Int32), kn_I D tc (kn_A w0 s.heap.size) s.heap [(kTin, ad_t, v_t), (kScene, ad_c, v_c)] H locs → lv_has ls 3 [(0, .ref (ad_t 0)), (1, .int y1), (2, .int y2)] → PX8_isAsNamed_L2 v_t v_c post n y1 y2 → W p l e rmX8_isAsNamed s m args below meth c H locs 0 0 (kn_Qi D tc w0 (fun (u : Unit) => [(kTin, ad_t, v_t), (kScene, ad_c, v_c)]) (fun (r : Int32) (u : Unit) => (r = 0 ∨ r = 1) ∧ post r) below args s 0 0) (F0 m 2 ls []) := by
  obtain ⟨S0, hr, hlocks, hK, hZ, hA⟩ := id X
  obtain ⟨hx, hb, hml, hown, hts⟩ := id S0
  intro n
  induction n with
  | zero =>
    intro H locs ls y1 y2 I hl h
    unfold PX8_isAsNamed_L2 at h
    exact h.elim
  | succ n ih =>
    intro H locs ls y1 y2 I hl h
    unfold PX8_isAsNamed_L2 at h
    refine lv_iload_n hx hb (kn_dec tX8_isAsNamed 2 rfl) rfl (lv_at hl 2 rfl) ?_
    refine lv_aload_n hx hb (kn_dec tX8_isAsNamed 3 rfl) rfl (lv_at hl 0 rfl) ?_
    refine kw_getl hx hb hts inX8 hown hK I 0 rfl rfl 6 (by decide) rfl (hts _ q2_105) (kn_dec tX8_isAsNamed 4 rfl) e_t_6 ?_
    refine kw_geti hx hb hts inX5 hown hK I 1 rfl rfl 7 (by decide) rfl (hts _ q2_40) (kn_dec tX8_isAsNamed 5 rfl) ?_
    refine lv_icmp_ge (tgt := 30) hx hb (kn_dec tX8_isAsNamed 6 rfl) (by decide) (fun c1 => ?_) (fun c1 => ?_)
    · have h := h.1 c1
      refine lv_iconst (v := (1)) hx hb (kn_dec tX8_isAsNamed 16 rfl) (by decide) ?_
      exact kw_zret hx hb hr (kn_nz (Or.inr rfl)) hlocks I () rfl ⟨(Or.inr rfl), h⟩ (kn_dec tX8_isAsNamed 17 rfl)
    · have h := h.2 c1
      refine lv_aload_n hx hb (kn_dec tX8_isAsNamed 7 rfl) rfl (lv_at hl 0 rfl) ?_
      refine lv_iload_n hx hb (kn_dec tX8_isAsNamed 8 rfl) rfl (lv_at hl 2 rfl) ?_
      refine lv_iload_n hx hb (kn_dec tX8_isAsNamed 9 rfl) rfl (lv_at hl 1 rfl) ?_
      refine kw_calli (wc := [(kTin, ad_t, _), (kScene, ad_c, _)]) (wr := []) I hA [0, 1] [] rfl rfl (by decide) (by decide) (kn_runV (As := [.int _, .int _]) S0 hK hZ hA I ((ctX8_holds e_t_6 g_t_10 h).met _) (kn_cwV 2 hts q4_144 q4_146 q0_27 q1_1 q4_147 rfl rfl (by decide +kernel) ⟨(Nat.le_of_ble_eq_true rfl), (Nat.le_of_ble_eq_true rfl)⟩) [0, 1] rfl (by decide) 0 rfl rfl rfl rfl hl.1 rfl (Nat.le_of_ble_eq_true rfl) (kn_dec tX8_isAsNamed 10 rfl) ⟨(Nat.le_of_ble_eq_true rfl), (Nat.le_of_ble_eq_true rfl)⟩) (fun r2 u3 H locs h I => ?_)
      obtain ⟨hz_r2, h⟩ := h
      have I : kn_I D tc (kn_A w0 s.heap.size) s.heap [(kTin, ad_t, _), (kScene, ad_c, _)] _ _ := I
      refine lv_if_ne (tgt := 24) hx hb (kn_dec tX8_isAsNamed 11 rfl) (by decide) (fun c4 => ?_) (fun c4 => ?_)
      · have h := h.1 c4
        refine kw_iinc (lvf := fun y => [(2, .int y), (0, .ref (ad_t 0)), (1, .int _)]) (nv := (1)) hx hb (kn_dec tX8_isAsNamed 14 rfl) hl (k := 2) rfl (by decide) (by decide) (fun _ => rfl) (fun x5 ex5 ls hl => ?_)
        have h := h x5 ex5
        refine lv_goto (tgt := 2) hx hb (kn_dec tX8_isAsNamed 15 rfl) (by decide) ?_
        exact ih _ _ _ _ _  I (lv_sub hl [1, 2, 0] rfl) h
      · have h := h.2 c4
        refine lv_iconst (v := (0)) hx hb (kn_dec tX8_isAsNamed 12 rfl) (by decide) ?_
        exact kw_zret hx hb hr (kn_nz (Or.inl rfl)) hlocks I () rfl ⟨(Or.inl rfl), h⟩ (kn_dec tX8_isAsNamed 13 rfl)
def PX8_isAsNamed  (v_t : OV) (v_c : OV) (a1 : Int32) (post : Int32 → Prop) : Prop := (∃ n1 : Nat, PX8_isAsNamed_L2 v_t v_c post n1 a1 ((0 : Int32)))
set_option maxRecDepth 100000 in
set_option maxHeartbeats 1000000 in
theorem ctX8_isAsNamed {l : Launch} {D : va_G} {tc : Nat → ClassId} {Z : (Nat → Nat) × (Nat → Nat)}  {ad_t : Nat → Nat} {ad_c : Nat → Nat} {v_t : OV} {v_c : OV} {a1 : Int32} (e_t_6 : ad_t (6 + 1) = ad_c 0) (g_t_10 : ∀ i, i < 7 → kn_q ad_t 10 i = some (ad_t (100 + i + 1)))   {post : Int32 → Prop} (h : PX8_isAsNamed  v_t v_c a1 post) : CTi l D tc Z yX8_isAsNamed (Cond.code yX8_isAsNamed cX8_isAsNamed 3 (some .boolean) :: kn_all) rmX8_isAsNamed 0 0 [.ref (ad_t 0), .int a1] [(kTin, ad_t, v_t), (kScene, ad_c, v_c)] (fun (u : Unit) => [(kTin, ad_t, v_t), (kScene, ad_c, v_c)]) (fun (r : Int32) (u : Unit) => (r = 0 ∨ r = 1) ∧ post r) := by
  refine kn_ofi (cc := cX8_isAsNamed) (nL := 3) (ret := (some .boolean)) (lv := [(0, .ref (ad_t 0)), (1, .int a1)]) (by decide) (Nat.le_of_ble_eq_true rfl) rfl (fun p e s m below meth c ls X I hl _ => ?_)
  obtain ⟨S0, hr, hlocks, hK, hZ, hA⟩ := id X
  obtain ⟨hx, hb, hml, hown, hts⟩ := id S0
  unfold PX8_isAsNamed at h
  refine lv_iconst (v := (0)) hx hb (kn_dec tX8_isAsNamed 0 rfl) (by decide) ?_
  refine lv_istore_n (lv' := [(2, .int _), (0, .ref (ad_t 0)), (1, .int _)]) hx hb (kn_dec tX8_isAsNamed 1 rfl) rfl hl (by decide) rfl (fun ls hl => ?_)
  obtain ⟨n1, h⟩ := h
  exact wX8_isAsNamed_L2 X e_t_6 g_t_10 n1 _ _ _ _ _  I (lv_sub hl [1, 2, 0] rfl) h

/-! X8_mostAlike -/
abbrev rmX8_mostAlike : Room := { frames := 2, cells := 0, slots := 0, locals := 64 }
def PX8_mostAlike_L18 (v_t : OV) (v_c : OV) (K4 : Int32 → Int32 → Int32 → Prop) (post : Int32 → Prop) : Nat → Int32 → Int32 → Int32 → Int32 → Int32 → Prop
  | 0, _, _, _, _, _ => False
  | n + 1, y1, y2, y3, y4, y5 => (((v_t.1 5) < y5 → (∀ x2 : Int32, x2 = (if y2 < y4 then y4 else y2) → (∀ x3 : Int32, x3 = y3 + (1 : Int32) → K4 y1 x2 x3))) ∧ (¬ (v_t.1 5) < y5 → (PX8_isAsNamed v_t v_c y5 (fun r4 => ((r4 = ((0 : Int32)) → (∀ x7 : Int32, x7 = y5 + (1 : Int32) → PX8_mostAlike_L18 v_t v_c K4 post n y1 y2 y3 y4 x7)) ∧ (¬ r4 = ((0 : Int32)) → (vp_in y5 7 ∧ (y5.toNatClampNeg < 7 ∧ (vp_in y1 4 ∧ (vp_in y3 7 ∧ (y3.toNatClampNeg < 7 ∧ (vp_in y1 4 ∧ ((¬ (v_t.2.1 (100 + y5.toNatClampNeg) y1.toNatClampNeg) = (v_t.2.1 (100 + y3.toNatClampNeg) y1.toNatClampNeg) → (∀ x15 : Int32, x15 = y5 + (1 : Int32) → PX8_mostAlike_L18 v_t v_c K4 post n y1 y2 y3 y4 x15)) ∧ ((v_t.2.1 (100 + y5.toNatClampNeg) y1.toNatClampNeg) = (v_t.2.1 (100 + y3.toNatClampNeg) y1.toNatClampNeg) → (∀ x16 : Int32, x16 = y4 + (1 : Int32) → (∀ x17 : Int32, x17 = y5 + (1 : Int32) → PX8_mostAlike_L18 v_t v_c K4 post n y1 y2 y3 x16 x17))))))))))))))))
set_option maxRecDepth 100000 in
set_option maxHeartbeats 1000000 in
theorem wX8_mostAlike_L18 {v_t : OV} {v_c : OV} {K4 : Int32 → Int32 → Int32 → Prop} {post : Int32 → Prop} {ad_t : Nat → Nat} {ad_c : Nat → Nat} (X : kn_X p s m args meth c cX8_mostAlike 6 (some .int) RX8 kn_all D tc Z (kn_A w0 s.heap.size)) (e_t_6 : ad_t (6 + 1) = ad_c 0) (g_t_10 : ∀ i, i < 7 → kn_q ad_t 10 i = some (ad_t (100 + i + 1)))  (hK4 : ∀ (H : Heap) (locs : List Loc) (ls : Array Slot) (y1 : Int32) (y2 : Int32) (y3 : Int32), kn_I D tc (kn_A w0 s.heap.size) s.heap [(kTin, ad_t, v_t), (kScene, ad_c, v_c)] H locs → lv_has ls 6 [(0, .ref (ad_t 0)), (1, .int y1), (2, .int y2), (3, .int y3)] → K4 y1 y2 y3 → W p l e rmX8_mostAlike s m args below meth c H locs 0 0 (kn_Qi D tc w0 (fun (u : Unit) => [(kTin, ad_t, v_t), (kScene, ad_c, v_c)]) (fun (r : Int32) (u : Unit) => post r) below args s 0 0) (F0 m 4 ls [])) : ∀ n : Nat, ∀ (H : Heap) (locs : List Loc) (ls : Array Slot) (y1 : Int32) (y2 : Int32) (y3 : Int32) (y4 : Int32) (y5 : Int32), kn_I D tc (kn_A w0 s.heap.size) s.heap [(kTin, ad_t, v_t), (kScene, ad_c, v_c)] H locs → lv_has ls 6 [(0, .ref (ad_t 0)), (1, .int y1), (2, .int y2), (3, .int y3), (4, .int y4), (5, .int y5)] → PX8_mostAlike_L18 v_t v_c K4 post n y1 y2 y3 y4 y5 → W p l e rmX8_mostAlike s m args below meth c H locs 0 0 (kn_Qi D tc w0 (fun (u : Unit) => [(kTin, ad_t, v_t), (kScene, ad_c, v_c)]) (fun (r : Int32) (u : Unit) => post r) below args s 0 0) (F0 m 18 ls []) := by
  obtain ⟨S0, hr, hlocks, hK, hZ, hA⟩ := id X
  obtain ⟨hx, hb, hml, hown, hts⟩ := id S0
  intro n
  induction n with
  | zero =>
    intro H locs ls y1 y2 y3 y4 y5 I hl h
    unfold PX8_mostAlike_L18 at h
    exact h.elim
  | succ n ih =>
    intro H locs ls y1 y2 y3 y4 y5 I hl h
    unfold PX8_mostAlike_L18 at h
    refine lv_iload hx hb (kn_dec tX8_mostAlike 12 rfl) (lv_at hl 5 rfl) ?_
    refine lv_aload_n hx hb (kn_dec tX8_mostAlike 13 rfl) rfl (lv_at hl 0 rfl) ?_
    refine kw_geti hx hb hts inX8 hown hK I 0 rfl rfl 5 (by decide) rfl (hts _ q2_104) (kn_dec tX8_mostAlike 14 rfl) ?_
    refine lv_icmp_gt (tgt := 65) hx hb (kn_dec tX8_mostAlike 15 rfl) (by decide) (fun c1 => ?_) (fun c1 => ?_)
    · have h := h.1 c1
      refine lv_iload_n hx hb (kn_dec tX8_mostAlike 36 rfl) rfl (lv_at hl 2 rfl) ?_
      refine lv_iload hx hb (kn_dec tX8_mostAlike 37 rfl) (lv_at hl 4 rfl) ?_
      refine va_mmax hx hb (hml.trans hl.1.symm) hown (hts _ q4_156) (hts _ q3_221) (hts _ q1_11) (hts _ q3_222) (Nat.le_of_ble_eq_true rfl) (Nat.le_of_ble_eq_true rfl) (Nat.le_of_ble_eq_true rfl) (Nat.le_of_ble_eq_true rfl) (kn_dec tX8_mostAlike 38 rfl) ?_
      refine lv_topi (fun x2 ex2 => ?_)
      have h := h x2 ex2
      refine lv_istore_n (lv' := [(2, .int _), (0, .ref (ad_t 0)), (1, .int _), (3, .int _), (4, .int _), (5, .int _)]) hx hb (kn_dec tX8_mostAlike 39 rfl) rfl hl (by decide) rfl (fun ls hl => ?_)
      refine kw_iinc (lvf := fun y => [(3, .int y), (2, .int _), (0, .ref (ad_t 0)), (1, .int _), (4, .int _), (5, .int _)]) (nv := (1)) hx hb (kn_dec tX8_mostAlike 40 rfl) hl (k := 3) rfl (by decide) (by decide) (fun _ => rfl) (fun x3 ex3 ls hl => ?_)
      have h := h x3 ex3
      refine lv_goto (tgt := 4) hx hb (kn_dec tX8_mostAlike 41 rfl) (by decide) ?_
      exact hK4 _ _ _ _ _ _  I (lv_sub hl [2, 3, 1, 0] rfl) h
    · have h := h.2 c1
      refine lv_aload_n hx hb (kn_dec tX8_mostAlike 16 rfl) rfl (lv_at hl 0 rfl) ?_
      refine lv_iload hx hb (kn_dec tX8_mostAlike 17 rfl) (lv_at hl 5 rfl) ?_
      refine kw_calli (wc := [(kTin, ad_t, _), (kScene, ad_c, _)]) (wr := []) I hA [0, 1] [] rfl rfl (by decide) (by decide) (kn_runV (As := [.int _]) S0 hK hZ hA I ((ctX8_isAsNamed e_t_6 g_t_10 h).met _) (kn_cwV 1 hts q4_140 q4_142 q0_26 q1_1 q4_143 rfl rfl (by decide +kernel) ⟨(Nat.le_of_ble_eq_true rfl), (Nat.le_of_ble_eq_true rfl)⟩) [0, 1] rfl (by decide) 0 rfl rfl rfl rfl hl.1 rfl (Nat.le_of_ble_eq_true rfl) (kn_dec tX8_mostAlike 18 rfl) ⟨(Nat.le_of_ble_eq_true rfl), (Nat.le_of_ble_eq_true rfl)⟩) (fun r4 u5 H locs h I => ?_)
      obtain ⟨hz_r4, h⟩ := h
      have I : kn_I D tc (kn_A w0 s.heap.size) s.heap [(kTin, ad_t, _), (kScene, ad_c, _)] _ _ := I
      refine lv_if_eq (tgt := 59) hx hb (kn_dec tX8_mostAlike 19 rfl) (by decide) (fun c6 => ?_) (fun c6 => ?_)
      · have h := h.1 c6
        refine kw_iinc (lvf := fun y => [(5, .int y), (0, .ref (ad_t 0)), (1, .int _), (2, .int _), (3, .int _), (4, .int _)]) (nv := (1)) hx hb (kn_dec tX8_mostAlike 34 rfl) hl (k := 5) rfl (by decide) (by decide) (fun _ => rfl) (fun x7 ex7 ls hl => ?_)
        have h := h x7 ex7
        refine lv_goto (tgt := 18) hx hb (kn_dec tX8_mostAlike 35 rfl) (by decide) ?_
        exact ih _ _ _ _ _ _ _ _  I (lv_sub hl [1, 2, 3, 4, 5, 0] rfl) h
      · have h := h.2 c6
        refine lv_aload_n hx hb (kn_dec tX8_mostAlike 20 rfl) rfl (lv_at hl 0 rfl) ?_
        refine kw_getl hx hb hts inX8 hown hK I 0 rfl rfl 10 (by decide) rfl (hts _ q2_109) (kn_dec tX8_mostAlike 21 rfl) rfl ?_
        refine lv_iload hx hb (kn_dec tX8_mostAlike 22 rfl) (lv_at hl 5 rfl) ?_
        obtain ⟨hs8, h⟩ := h
        obtain ⟨hp9, h⟩ := h
        refine kw_gald hx hb hK I 0 rfl 10 7 (List.mem_of_getElem? (i := 3) rfl) hs8 (kn_dec tX8_mostAlike 23 rfl) (g_t_10 _ hp9) ?_
        refine lv_iload_n hx hb (kn_dec tX8_mostAlike 24 rfl) rfl (lv_at hl 1 rfl) ?_
        obtain ⟨hs10, h⟩ := h
        refine kw_iald hx hb hK I 0 rfl (100 + y5.toNatClampNeg) 4 (kTin_gm _ hp9) hs10 (kn_dec tX8_mostAlike 25 rfl) ?_
        refine lv_aload_n hx hb (kn_dec tX8_mostAlike 26 rfl) rfl (lv_at hl 0 rfl) ?_
        refine kw_getl hx hb hts inX8 hown hK I 0 rfl rfl 10 (by decide) rfl (hts _ q2_109) (kn_dec tX8_mostAlike 27 rfl) rfl ?_
        refine lv_iload_n hx hb (kn_dec tX8_mostAlike 28 rfl) rfl (lv_at hl 3 rfl) ?_
        obtain ⟨hs11, h⟩ := h
        obtain ⟨hp12, h⟩ := h
        refine kw_gald hx hb hK I 0 rfl 10 7 (List.mem_of_getElem? (i := 3) rfl) hs11 (kn_dec tX8_mostAlike 29 rfl) (g_t_10 _ hp12) ?_
        refine lv_iload_n hx hb (kn_dec tX8_mostAlike 30 rfl) rfl (lv_at hl 1 rfl) ?_
        obtain ⟨hs13, h⟩ := h
        refine kw_iald hx hb hK I 0 rfl (100 + y3.toNatClampNeg) 4 (kTin_gm _ hp12) hs13 (kn_dec tX8_mostAlike 31 rfl) ?_
        refine lv_icmp_ne (tgt := 59) hx hb (kn_dec tX8_mostAlike 32 rfl) (by decide) (fun c14 => ?_) (fun c14 => ?_)
        · have h := h.1 c14
          refine kw_iinc (lvf := fun y => [(5, .int y), (0, .ref (ad_t 0)), (1, .int _), (2, .int _), (3, .int _), (4, .int _)]) (nv := (1)) hx hb (kn_dec tX8_mostAlike 34 rfl) hl (k := 5) rfl (by decide) (by decide) (fun _ => rfl) (fun x15 ex15 ls hl => ?_)
          have h := h x15 ex15
          refine lv_goto (tgt := 18) hx hb (kn_dec tX8_mostAlike 35 rfl) (by decide) ?_
          exact ih _ _ _ _ _ _ _ _  I (lv_sub hl [1, 2, 3, 4, 5, 0] rfl) h
        · have h := h.2 c14
          refine kw_iinc (lvf := fun y => [(4, .int y), (0, .ref (ad_t 0)), (1, .int _), (2, .int _), (3, .int _), (5, .int _)]) (nv := (1)) hx hb (kn_dec tX8_mostAlike 33 rfl) hl (k := 4) rfl (by decide) (by decide) (fun _ => rfl) (fun x16 ex16 ls hl => ?_)
          have h := h x16 ex16
          refine kw_iinc (lvf := fun y => [(5, .int y), (4, .int _), (0, .ref (ad_t 0)), (1, .int _), (2, .int _), (3, .int _)]) (nv := (1)) hx hb (kn_dec tX8_mostAlike 34 rfl) hl (k := 5) rfl (by decide) (by decide) (fun _ => rfl) (fun x17 ex17 ls hl => ?_)
          have h := h x17 ex17
          refine lv_goto (tgt := 18) hx hb (kn_dec tX8_mostAlike 35 rfl) (by decide) ?_
          exact ih _ _ _ _ _ _ _ _  I (lv_sub hl [2, 3, 4, 5, 1, 0] rfl) h
def PX8_mostAlike_L4 (v_t : OV) (v_c : OV)  (post : Int32 → Prop) : Nat → Int32 → Int32 → Int32 → Prop
  | 0, _, _, _ => False
  | n + 1, y1, y2, y3 => (((v_t.1 5) < y3 → post y2) ∧ (¬ (v_t.1 5) < y3 → (∃ n2 : Nat, PX8_mostAlike_L18 v_t v_c (PX8_mostAlike_L4 v_t v_c post n) post n2 y1 y2 y3 ((0 : Int32)) ((0 : Int32)))))
set_option maxRecDepth 100000 in
set_option maxHeartbeats 1000000 in
theorem wX8_mostAlike_L4 {v_t : OV} {v_c : OV}  {post : Int32 → Prop} {ad_t : Nat → Nat} {ad_c : Nat → Nat} (X : kn_X p s m args meth c cX8_mostAlike 6 (some .int) RX8 kn_all D tc Z (kn_A w0 s.heap.size)) (e_t_6 : ad_t (6 + 1) = ad_c 0) (g_t_10 : ∀ i, i < 7 → kn_q ad_t 10 i = some (ad_t (100 + i + 1)))   : ∀ n : Nat, ∀ (H : Heap) (locs : List Loc) (ls : Array Slot) (y1 : Int32) (y2 : Int32) (y3 : Int32), kn_I D tc (kn_A w0 s.heap.size) s.heap [(kTin, ad_t, v_t), (kScene, ad_c, v_c)] H locs → lv_has ls 6 [(0, .ref (ad_t 0)), (1, .int y1), (2, .int y2), (3, .int y3)] → PX8_mostAlike_L4 v_t v_c post n y1 y2 y3 → W p l e rmX8_mostAlike s m args below meth c H locs 0 0 (kn_Qi D tc w0 (fun (u : Unit) => [(kTin, ad_t, v_t), (kScene, ad_c, v_c)]) (fun (r : Int32) (u : Unit) => post r) below args s 0 0) (F0 m 4 ls []) := by
  obtain ⟨S0, hr, hlocks, hK, hZ, hA⟩ := id X
  obtain ⟨hx, hb, hml, hown, hts⟩ := id S0
  intro n
  induction n with
  | zero =>
    intro H locs ls y1 y2 y3 I hl h
    unfold PX8_mostAlike_L4 at h
    exact h.elim
  | succ n ih =>
    intro H locs ls y1 y2 y3 I hl h
    unfold PX8_mostAlike_L4 at h
    refine lv_iload_n hx hb (kn_dec tX8_mostAlike 4 rfl) rfl (lv_at hl 3 rfl) ?_
    refine lv_aload_n hx hb (kn_dec tX8_mostAlike 5 rfl) rfl (lv_at hl 0 rfl) ?_
    refine kw_geti hx hb hts inX8 hown hK I 0 rfl rfl 5 (by decide) rfl (hts _ q2_104) (kn_dec tX8_mostAlike 6 rfl) ?_
    refine lv_icmp_gt (tgt := 78) hx hb (kn_dec tX8_mostAlike 7 rfl) (by decide) (fun c1 => ?_) (fun c1 => ?_)
    · have h := h.1 c1
      refine lv_iload_n hx hb (kn_dec tX8_mostAlike 42 rfl) rfl (lv_at hl 2 rfl) ?_
      exact kw_iret hx hb hr hlocks I () rfl h (kn_dec tX8_mostAlike 43 rfl)
    · have h := h.2 c1
      refine lv_iconst (v := (0)) hx hb (kn_dec tX8_mostAlike 8 rfl) (by decide) ?_
      refine lv_istore (lv' := [(4, .int _), (0, .ref (ad_t 0)), (1, .int _), (2, .int _), (3, .int _)]) hx hb (kn_dec tX8_mostAlike 9 rfl) hl (by decide) rfl (fun ls hl => ?_)
      refine lv_iconst (v := (0)) hx hb (kn_dec tX8_mostAlike 10 rfl) (by decide) ?_
      refine lv_istore (lv' := [(5, .int _), (4, .int _), (0, .ref (ad_t 0)), (1, .int _), (2, .int _), (3, .int _)]) hx hb (kn_dec tX8_mostAlike 11 rfl) hl (by decide) rfl (fun ls hl => ?_)
      obtain ⟨n2, h⟩ := h
      exact wX8_mostAlike_L18 X e_t_6 g_t_10 ih n2 _ _ _ _ _ _ _ _  I (lv_sub hl [2, 3, 4, 5, 1, 0] rfl) h
def PX8_mostAlike  (v_t : OV) (v_c : OV) (a1 : Int32) (post : Int32 → Prop) : Prop := (∃ n1 : Nat, PX8_mostAlike_L4 v_t v_c post n1 a1 ((0 : Int32)) ((0 : Int32)))
set_option maxRecDepth 100000 in
set_option maxHeartbeats 1000000 in
theorem ctX8_mostAlike {l : Launch} {D : va_G} {tc : Nat → ClassId} {Z : (Nat → Nat) × (Nat → Nat)}  {ad_t : Nat → Nat} {ad_c : Nat → Nat} {v_t : OV} {v_c : OV} {a1 : Int32} (e_t_6 : ad_t (6 + 1) = ad_c 0) (g_t_10 : ∀ i, i < 7 → kn_q ad_t 10 i = some (ad_t (100 + i + 1)))   {post : Int32 → Prop} (h : PX8_mostAlike  v_t v_c a1 post) : CTi l D tc Z yX8_mostAlike (Cond.code yX8_mostAlike cX8_mostAlike 6 (some .int) :: kn_all) rmX8_mostAlike 0 0 [.ref (ad_t 0), .int a1] [(kTin, ad_t, v_t), (kScene, ad_c, v_c)] (fun (u : Unit) => [(kTin, ad_t, v_t), (kScene, ad_c, v_c)]) (fun (r : Int32) (u : Unit) => post r) := by
  refine kn_ofi (cc := cX8_mostAlike) (nL := 6) (ret := (some .int)) (lv := [(0, .ref (ad_t 0)), (1, .int a1)]) (by decide) (Nat.le_of_ble_eq_true rfl) rfl (fun p e s m below meth c ls X I hl _ => ?_)
  obtain ⟨S0, hr, hlocks, hK, hZ, hA⟩ := id X
  obtain ⟨hx, hb, hml, hown, hts⟩ := id S0
  unfold PX8_mostAlike at h
  refine lv_iconst (v := (0)) hx hb (kn_dec tX8_mostAlike 0 rfl) (by decide) ?_
  refine lv_istore_n (lv' := [(2, .int _), (0, .ref (ad_t 0)), (1, .int _)]) hx hb (kn_dec tX8_mostAlike 1 rfl) rfl hl (by decide) rfl (fun ls hl => ?_)
  refine lv_iconst (v := (0)) hx hb (kn_dec tX8_mostAlike 2 rfl) (by decide) ?_
  refine lv_istore_n (lv' := [(3, .int _), (2, .int _), (0, .ref (ad_t 0)), (1, .int _)]) hx hb (kn_dec tX8_mostAlike 3 rfl) rfl hl (by decide) rfl (fun ls hl => ?_)
  obtain ⟨n1, h⟩ := h
  exact wX8_mostAlike_L4 X e_t_6 g_t_10 n1 _ _ _ _ _ _  I (lv_sub hl [2, 3, 1, 0] rfl) h

/-! X8_fillWritten -/
abbrev rmX8_fillWritten : Room := { frames := 6, cells := 0, slots := 0, locals := 167 }
def PX8_fillWritten_L34 (v_c : OV) (v_h : OV) (gn_pr : Nat) (K2 : Int32 → OV → OV → OV → (Nat → OV) → Prop) (post : OV → OV → OV → (Nat → OV) → Prop) : Nat → Int32 → Option Nat → Int32 → OV → OV → OV → (Nat → OV) → Prop
  | 0, _, _, _, _, _, _, _ => False
  | n + 1, y1, y2, y3, v_t, v_w, v_z, v_pr => ((((60 : Int32)) < y3 → (vp_in y1 7 ∧ (y1.toNatClampNeg < 7 ∧ (∀ v_t4 : OV, v_t4 = sa v_t (100 + y1.toNatClampNeg) (va_cpy (v_z.2.1 6) (v_t.2.1 (100 + y1.toNatClampNeg)) ((0 : Int32)).toNatClampNeg ((0 : Int32)).toNatClampNeg ((4 : Int32)).toNatClampNeg) → (∀ x5 : Int32, x5 = y1 + (1 : Int32) → K2 x5 v_t4 v_w v_z v_pr))))) ∧ (¬ ((60 : Int32)) < y3 → ((y2 = none → (PX7_pass_N v_w v_h v_z ((0 : Int32)) (fun r9 v_w7 v_z8 => (∀ x11 : Int32, x11 = y3 + (1 : Int32) → PX8_fillWritten_L34 v_c v_h gn_pr K2 post n y1 none x11 v_t v_w7 v_z8 v_pr)))) ∧ (∀ i6 : Nat, y2 = some i6 → (PX7_pass_R v_w v_h (v_pr i6) v_z ((0 : Int32)) (fun r15 v_w12 v_pr13 v_z14 => (∀ x17 : Int32, x17 = y3 + (1 : Int32) → PX8_fillWritten_L34 v_c v_h gn_pr K2 post n y1 (some i6) x17 v_t v_w12 v_z14 (va_up v_pr i6 v_pr13))))))))
set_option maxRecDepth 100000 in
set_option maxHeartbeats 1000000 in
theorem wX8_fillWritten_L34 {v_c : OV} {v_h : OV} {gn_pr : Nat} {K2 : Int32 → OV → OV → OV → (Nat → OV) → Prop} {post : OV → OV → OV → (Nat → OV) → Prop} {ad_t : Nat → Nat} {ad_c : Nat → Nat} {ad_h : Nat → Nat} {ad_w : Nat → Nat} {ad_z : Nat → Nat} {ad_pr : Nat → Nat → Nat} (X : kn_X p s m args meth c cX8_fillWritten 4 none RX8 kn_all D tc Z (kn_A w0 s.heap.size)) (e_t_6 : ad_t (6 + 1) = ad_c 0) (e_c_0 : ad_c (0 + 1) = ad_h 0) (e_t_8 : ad_t (8 + 1) = ad_w 0) (e_t_9 : ad_t (9 + 1) = ad_z 0) (g_t_10 : ∀ i, i < 7 → kn_q ad_t 10 i = some (ad_t (100 + i + 1))) (p_t_4 : ∀ i, i < gn_pr → kn_q ad_t 4 i = some (ad_pr i 0))  (hK2 : ∀ (H : Heap) (locs : List Loc) (ls : Array Slot) (y1 : Int32) (v_t : OV) (v_w : OV) (v_z : OV) (v_pr : (Nat → OV)), kn_I D tc (kn_A w0 s.heap.size) s.heap (List.flatten [[(kTin, ad_t, v_t)], [(kScene, ad_c, v_c)], [(kHill, ad_h, v_h)], [(kWalk, ad_w, v_w)], [(kState, ad_z, v_z)], kn_pool kRule gn_pr ad_pr v_pr]) H locs → lv_has ls 4 [(0, .ref (ad_t 0)), (1, .int y1)] → K2 y1 v_t v_w v_z v_pr → W p l e rmX8_fillWritten s m args below meth c H locs 0 0 (kn_Qv D tc w0 (fun (u : OV × OV × OV × (Nat → OV)) => (List.flatten [[(kTin, ad_t, u.1)], [(kScene, ad_c, v_c)], [(kHill, ad_h, v_h)], [(kWalk, ad_w, u.2.1)], [(kState, ad_z, u.2.2.1)], kn_pool kRule gn_pr ad_pr u.2.2.2])) (fun (u : OV × OV × OV × (Nat → OV)) => post u.1 u.2.1 u.2.2.1 u.2.2.2) below args s 0 0) (F0 m 2 ls [])) : ∀ n : Nat, ∀ (H : Heap) (locs : List Loc) (ls : Array Slot) (y1 : Int32) (y2 : Option Nat) (y3 : Int32) (v_t : OV) (v_w : OV) (v_z : OV) (v_pr : (Nat → OV)), (ho_y2 : ∀ i, y2 = some i → i < gn_pr) → kn_I D tc (kn_A w0 s.heap.size) s.heap (List.flatten [[(kTin, ad_t, v_t)], [(kScene, ad_c, v_c)], [(kHill, ad_h, v_h)], [(kWalk, ad_w, v_w)], [(kState, ad_z, v_z)], kn_pool kRule gn_pr ad_pr v_pr]) H locs → lv_has ls 4 [(0, .ref (ad_t 0)), (1, .int y1), (2, va_rf (y2.map (fun i => ad_pr i 0))), (3, .int y3)] → PX8_fillWritten_L34 v_c v_h gn_pr K2 post n y1 y2 y3 v_t v_w v_z v_pr → W p l e rmX8_fillWritten s m args below meth c H locs 0 0 (kn_Qv D tc w0 (fun (u : OV × OV × OV × (Nat → OV)) => (List.flatten [[(kTin, ad_t, u.1)], [(kScene, ad_c, v_c)], [(kHill, ad_h, v_h)], [(kWalk, ad_w, u.2.1)], [(kState, ad_z, u.2.2.1)], kn_pool kRule gn_pr ad_pr u.2.2.2])) (fun (u : OV × OV × OV × (Nat → OV)) => post u.1 u.2.1 u.2.2.1 u.2.2.2) below args s 0 0) (F0 m 34 ls []) := by
  obtain ⟨S0, hr, hlocks, hK, hZ, hA⟩ := id X
  obtain ⟨hx, hb, hml, hown, hts⟩ := id S0
  intro n
  induction n with
  | zero =>
    intro H locs ls y1 y2 y3 v_t v_w v_z v_pr ho_y2 I hl h
    unfold PX8_fillWritten_L34 at h
    exact h.elim
  | succ n ih =>
    intro H locs ls y1 y2 y3 v_t v_w v_z v_pr ho_y2 I hl h
    unfold PX8_fillWritten_L34 at h
    refine lv_iload_n hx hb (kn_dec tX8_fillWritten 20 rfl) rfl (lv_at hl 3 rfl) ?_
    refine lv_bipush (v := (60)) hx hb (kn_dec tX8_fillWritten 21 rfl) (by decide) ?_
    refine lv_icmp_gt (tgt := 67) hx hb (kn_dec tX8_fillWritten 22 rfl) (by decide) (fun c1 => ?_) (fun c1 => ?_)
    · have h := h.1 c1
      refine lv_aload_n hx hb (kn_dec tX8_fillWritten 36 rfl) rfl (lv_at hl 0 rfl) ?_
      refine kw_getl hx hb hts inX8 hown hK I 0 rfl rfl 9 (by decide) rfl (hts _ q2_108) (kn_dec tX8_fillWritten 37 rfl) e_t_9 ?_
      refine kw_getl hx hb hts inX6 hown hK I 4 rfl rfl 6 (by decide) rfl (hts _ q2_0) (kn_dec tX8_fillWritten 38 rfl) rfl ?_
      refine lv_iconst (v := (0)) hx hb (kn_dec tX8_fillWritten 39 rfl) (by decide) ?_
      refine lv_aload_n hx hb (kn_dec tX8_fillWritten 40 rfl) rfl (lv_at hl 0 rfl) ?_
      refine kw_getl hx hb hts inX8 hown hK I 0 rfl rfl 10 (by decide) rfl (hts _ q2_109) (kn_dec tX8_fillWritten 41 rfl) rfl ?_
      refine lv_iload_n hx hb (kn_dec tX8_fillWritten 42 rfl) rfl (lv_at hl 1 rfl) ?_
      obtain ⟨hs2, h⟩ := h
      obtain ⟨hp3, h⟩ := h
      refine kw_gald hx hb hK I 0 rfl 10 7 (List.mem_of_getElem? (i := 3) rfl) hs2 (kn_dec tX8_fillWritten 43 rfl) (g_t_10 _ hp3) ?_
      refine lv_iconst (v := (0)) hx hb (kn_dec tX8_fillWritten 44 rfl) (by decide) ?_
      refine lv_iconst (v := (4)) hx hb (kn_dec tX8_fillWritten 45 rfl) (by decide) ?_
      refine kw_copy hx hb (hml.trans hl.1.symm) hown (hts _ q4_139) (hts _ q3_41) (hts _ q3_40) (hts _ q1_16) hK I 4 0 rfl rfl 6 4 (100 + y1.toNatClampNeg) 4 (List.mem_of_getElem? (i := 3) rfl) (kTin_gm _ hp3) (kTin_gu _ hp3) (by decide) (by decide) (by decide) (by decide) (by decide) (Nat.le_of_ble_eq_true rfl) (Nat.le_of_ble_eq_true rfl) (kn_dec tX8_fillWritten 46 rfl) (fun v_t4 ev_t4 H locs I => ?_)
      have h := h v_t4 ev_t4
      have I : kn_I D tc (kn_A w0 s.heap.size) s.heap (List.flatten [[(kTin, ad_t, _)], [(kScene, ad_c, _)], [(kHill, ad_h, _)], [(kWalk, ad_w, _)], [(kState, ad_z, _)], kn_pool kRule gn_pr ad_pr _]) _ _ := I
      refine kw_iinc (lvf := fun y => [(1, .int y), (0, .ref (ad_t 0)), (2, va_rf (y2.map (fun i => ad_pr i 0))), (3, .int y3)]) (nv := (1)) hx hb (kn_dec tX8_fillWritten 47 rfl) hl (k := 1) rfl (by decide) (by decide) (fun _ => (by cases y2 <;> rfl)) (fun x5 ex5 ls hl => ?_)
      have h := h x5 ex5
      refine lv_goto (tgt := 2) hx hb (kn_dec tX8_fillWritten 48 rfl) (by decide) ?_
      exact hK2 _ _ _ _ _ _ _ _  I (lv_sub hl [1, 0] rfl) h
    · have h := h.2 c1
      refine lv_aload_n hx hb (kn_dec tX8_fillWritten 23 rfl) rfl (lv_at hl 0 rfl) ?_
      refine kw_getl hx hb hts inX8 hown hK I 0 rfl rfl 8 (by decide) rfl (hts _ q2_107) (kn_dec tX8_fillWritten 24 rfl) e_t_8 ?_
      refine lv_aload_n hx hb (kn_dec tX8_fillWritten 25 rfl) rfl (lv_at hl 0 rfl) ?_
      refine kw_getl hx hb hts inX8 hown hK I 0 rfl rfl 6 (by decide) rfl (hts _ q2_105) (kn_dec tX8_fillWritten 26 rfl) e_t_6 ?_
      refine kw_getl hx hb hts inX5 hown hK I 1 rfl rfl 0 (by decide) rfl (hts _ q2_28) (kn_dec tX8_fillWritten 27 rfl) e_c_0 ?_
      refine kw_aloadq_n hx hb (kn_dec tX8_fillWritten 28 rfl) rfl (lv_at hl 2 rfl) ?_
      refine lv_aload_n hx hb (kn_dec tX8_fillWritten 29 rfl) rfl (lv_at hl 0 rfl) ?_
      refine kw_getl hx hb hts inX8 hown hK I 0 rfl rfl 9 (by decide) rfl (hts _ q2_108) (kn_dec tX8_fillWritten 30 rfl) e_t_9 ?_
      refine lv_iconst (v := (0)) hx hb (kn_dec tX8_fillWritten 31 rfl) (by decide) ?_
      rcases y2 with _ | i6
      · have h := h.1 rfl
        have I : kn_I D tc (kn_A w0 s.heap.size) s.heap ([(kWalk, ad_w, _), (kHill, ad_h, _), (kState, ad_z, _)] ++ (List.flatten [[(kTin, ad_t, _)], [(kScene, ad_c, _)], kn_pool kRule gn_pr ad_pr _])) _ _ := I.perm (kn_segA (segs := [[(kTin, ad_t, _)], [(kScene, ad_c, _)], [(kHill, ad_h, _)], [(kWalk, ad_w, _)], [(kState, ad_z, _)], kn_pool kRule gn_pr ad_pr _]) (sC := [[(kWalk, ad_w, _)], [(kHill, ad_h, _)], [(kState, ad_z, _)]]) (sR := [[(kTin, ad_t, _)], [(kScene, ad_c, _)], kn_pool kRule gn_pr ad_pr _]) [3, 2, 4, 0, 1, 5] rfl rfl)
        refine kw_calli (wc := [(kWalk, ad_w, _), (kHill, ad_h, _), (kState, ad_z, _)]) (wr := (List.flatten [[(kTin, ad_t, _)], [(kScene, ad_c, _)], kn_pool kRule gn_pr ad_pr _])) I hA (kn_pl1 _ _) (kn_pl2 _ _) (kn_pl1_ok _ _) (kn_pl2_ok _ _) (kn_pl2_nd _ _) (kn_pl_dis _ _) (kn_runV (As := [.ref (ad_h 0), .null, .ref (ad_z 0), .int _]) S0 hK hZ hA I ((ctX7_pass_N (Or.inl rfl) h).met _) (kn_cwV 4 hts q3_183 q3_184 q3_185 q1_9 q3_186 rfl rfl (by decide +kernel) ⟨(Nat.le_of_ble_eq_true rfl), (Nat.le_of_ble_eq_true rfl)⟩) (kn_pl1 _ _) (kn_pl1_ok _ _) (kn_pl1_nd _ _) 0 rfl rfl rfl rfl hl.1 rfl (Nat.le_of_ble_eq_true rfl) (kn_dec tX8_fillWritten 32 rfl) ⟨(Nat.le_of_ble_eq_true rfl), (Nat.le_of_ble_eq_true rfl)⟩) (fun r9 u10 H locs h I => ?_)
        have I : kn_I D tc (kn_A w0 s.heap.size) s.heap (List.flatten [[(kTin, ad_t, _)], [(kScene, ad_c, _)], [(kHill, ad_h, _)], [(kWalk, ad_w, _)], [(kState, ad_z, _)], kn_pool kRule gn_pr ad_pr _]) _ _ := I.perm (kn_segB (sC := [[(kTin, ad_t, _)], [(kScene, ad_c, _)], kn_pool kRule gn_pr ad_pr _]) (sR := [[(kWalk, ad_w, _)], [(kHill, ad_h, _)], [(kState, ad_z, _)]]) (segs := [[(kTin, ad_t, _)], [(kScene, ad_c, _)], [(kHill, ad_h, _)], [(kWalk, ad_w, _)], [(kState, ad_z, _)], kn_pool kRule gn_pr ad_pr _]) [0, 1, 4, 3, 5, 2] rfl rfl)
        refine lv_pop hx hb (kn_dec tX8_fillWritten 33 rfl) rfl ?_
        refine kw_iinc (lvf := fun y => [(3, .int y), (0, .ref (ad_t 0)), (1, .int _), (2, .null)]) (nv := (1)) hx hb (kn_dec tX8_fillWritten 34 rfl) hl (k := 3) rfl (by decide) (by decide) (fun _ => rfl) (fun x11 ex11 ls hl => ?_)
        have h := h x11 ex11
        refine lv_goto (tgt := 34) hx hb (kn_dec tX8_fillWritten 35 rfl) (by decide) ?_
        exact ih _ _ _ _ _ _ _ _ _ _ (fun i e => by cases e) I (lv_sub hl [1, 2, 3, 0] rfl) h
      · have h := h.2 i6 rfl
        have hp_i6 := ho_y2 i6 rfl
        have I : kn_I D tc (kn_A w0 s.heap.size) s.heap (List.flatten [[(kRule, ad_pr i6, _)], kn_rest kRule gn_pr ad_pr _ i6, [(kTin, ad_t, _)], [(kScene, ad_c, _)], [(kHill, ad_h, _)], [(kWalk, ad_w, _)], [(kState, ad_z, _)]]) _ _ := I.perm ((kn_seg (segs := [[(kTin, ad_t, _)], [(kScene, ad_c, _)], [(kHill, ad_h, _)], [(kWalk, ad_w, _)], [(kState, ad_z, _)], kn_pool kRule gn_pr ad_pr _]) (segs' := [kn_pool kRule gn_pr ad_pr _, [(kTin, ad_t, _)], [(kScene, ad_c, _)], [(kHill, ad_h, _)], [(kWalk, ad_w, _)], [(kState, ad_z, _)]]) [5, 0, 1, 2, 3, 4] rfl rfl).trans (kn_focus hp_i6))
        have I : kn_I D tc (kn_A w0 s.heap.size) s.heap ([(kWalk, ad_w, _), (kHill, ad_h, _), (kRule, ad_pr i6, _), (kState, ad_z, _)] ++ (List.flatten [kn_rest kRule gn_pr ad_pr _ i6, [(kTin, ad_t, _)], [(kScene, ad_c, _)]])) _ _ := I.perm (kn_segA (segs := [[(kRule, ad_pr i6, _)], kn_rest kRule gn_pr ad_pr _ i6, [(kTin, ad_t, _)], [(kScene, ad_c, _)], [(kHill, ad_h, _)], [(kWalk, ad_w, _)], [(kState, ad_z, _)]]) (sC := [[(kWalk, ad_w, _)], [(kHill, ad_h, _)], [(kRule, ad_pr i6, _)], [(kState, ad_z, _)]]) (sR := [kn_rest kRule gn_pr ad_pr _ i6, [(kTin, ad_t, _)], [(kScene, ad_c, _)]]) [5, 4, 0, 6, 1, 2, 3] rfl rfl)
        refine kw_calli (wc := [(kWalk, ad_w, _), (kHill, ad_h, _), (kRule, ad_pr i6, _), (kState, ad_z, _)]) (wr := (List.flatten [kn_rest kRule gn_pr ad_pr _ i6, [(kTin, ad_t, _)], [(kScene, ad_c, _)]])) I hA (kn_pl1 _ _) (kn_pl2 _ _) (kn_pl1_ok _ _) (kn_pl2_ok _ _) (kn_pl2_nd _ _) (kn_pl_dis _ _) (kn_runV (As := [.ref (ad_h 0), .ref (ad_pr i6 0), .ref (ad_z 0), .int _]) S0 hK hZ hA I ((ctX7_pass_R (Or.inl rfl) h).met _) (kn_cwV 4 hts q3_183 q3_184 q3_185 q1_9 q3_186 rfl rfl (by decide +kernel) ⟨(Nat.le_of_ble_eq_true rfl), (Nat.le_of_ble_eq_true rfl)⟩) (kn_pl1 _ _) (kn_pl1_ok _ _) (kn_pl1_nd _ _) 0 rfl rfl rfl rfl hl.1 rfl (Nat.le_of_ble_eq_true rfl) (kn_dec tX8_fillWritten 32 rfl) ⟨(Nat.le_of_ble_eq_true rfl), (Nat.le_of_ble_eq_true rfl)⟩) (fun r15 u16 H locs h I => ?_)
        have I : kn_I D tc (kn_A w0 s.heap.size) s.heap (List.flatten [[(kTin, ad_t, _)], [(kScene, ad_c, _)], [(kHill, ad_h, _)], [(kWalk, ad_w, _)], [(kState, ad_z, _)], kn_pool kRule gn_pr ad_pr _]) _ _ := I.perm ((kn_segB (sC := [kn_rest kRule gn_pr ad_pr _ i6, [(kTin, ad_t, _)], [(kScene, ad_c, _)]]) (sR := [[(kWalk, ad_w, _)], [(kHill, ad_h, _)], [(kRule, ad_pr i6, _)], [(kState, ad_z, _)]]) (segs := [[(kRule, ad_pr i6, _)], kn_rest kRule gn_pr ad_pr _ i6, [(kTin, ad_t, _)], [(kScene, ad_c, _)], [(kHill, ad_h, _)], [(kWalk, ad_w, _)], [(kState, ad_z, _)]]) [5, 0, 1, 2, 4, 3, 6] rfl rfl).trans ((kn_unfocus hp_i6).trans (kn_seg (segs := [kn_pool kRule gn_pr ad_pr _, [(kTin, ad_t, _)], [(kScene, ad_c, _)], [(kHill, ad_h, _)], [(kWalk, ad_w, _)], [(kState, ad_z, _)]]) (segs' := [[(kTin, ad_t, _)], [(kScene, ad_c, _)], [(kHill, ad_h, _)], [(kWalk, ad_w, _)], [(kState, ad_z, _)], kn_pool kRule gn_pr ad_pr _]) [1, 2, 3, 4, 5, 0] rfl rfl)))
        refine lv_pop hx hb (kn_dec tX8_fillWritten 33 rfl) rfl ?_
        refine kw_iinc (lvf := fun y => [(3, .int y), (0, .ref (ad_t 0)), (1, .int _), (2, .ref (ad_pr i6 0))]) (nv := (1)) hx hb (kn_dec tX8_fillWritten 34 rfl) hl (k := 3) rfl (by decide) (by decide) (fun _ => rfl) (fun x17 ex17 ls hl => ?_)
        have h := h x17 ex17
        refine lv_goto (tgt := 34) hx hb (kn_dec tX8_fillWritten 35 rfl) (by decide) ?_
        exact ih _ _ _ _ _ _ _ _ _ _ (fun j e => by cases e; exact hp_i6) I (lv_sub hl [1, 2, 3, 0] rfl) h
def PX8_fillWritten_L2 (v_c : OV) (v_h : OV) (gn_pr : Nat)  (post : OV → OV → OV → (Nat → OV) → Prop) : Nat → Int32 → OV → OV → OV → (Nat → OV) → Prop
  | 0, _, _, _, _, _ => False
  | n + 1, y1, v_t, v_w, v_z, v_pr => (((v_t.1 5) < y1 → post v_t v_w v_z v_pr) ∧ (¬ (v_t.1 5) < y1 → (PX8_ruleOf v_t v_pr gn_pr (y1 - ((1 : Int32))) (fun r2 => (PX6_begin v_z v_h (fun v_z4 => (∃ n6 : Nat, PX8_fillWritten_L34 v_c v_h gn_pr (PX8_fillWritten_L2 v_c v_h gn_pr post n) post n6 y1 r2 ((0 : Int32)) v_t v_w v_z4 v_pr)))))))
set_option maxRecDepth 100000 in
set_option maxHeartbeats 1000000 in
theorem wX8_fillWritten_L2 {v_c : OV} {v_h : OV} {gn_pr : Nat}  {post : OV → OV → OV → (Nat → OV) → Prop} {ad_t : Nat → Nat} {ad_c : Nat → Nat} {ad_h : Nat → Nat} {ad_w : Nat → Nat} {ad_z : Nat → Nat} {ad_pr : Nat → Nat → Nat} (X : kn_X p s m args meth c cX8_fillWritten 4 none RX8 kn_all D tc Z (kn_A w0 s.heap.size)) (e_t_6 : ad_t (6 + 1) = ad_c 0) (e_c_0 : ad_c (0 + 1) = ad_h 0) (e_t_8 : ad_t (8 + 1) = ad_w 0) (e_t_9 : ad_t (9 + 1) = ad_z 0) (g_t_10 : ∀ i, i < 7 → kn_q ad_t 10 i = some (ad_t (100 + i + 1))) (p_t_4 : ∀ i, i < gn_pr → kn_q ad_t 4 i = some (ad_pr i 0))   : ∀ n : Nat, ∀ (H : Heap) (locs : List Loc) (ls : Array Slot) (y1 : Int32) (v_t : OV) (v_w : OV) (v_z : OV) (v_pr : (Nat → OV)), kn_I D tc (kn_A w0 s.heap.size) s.heap (List.flatten [[(kTin, ad_t, v_t)], [(kScene, ad_c, v_c)], [(kHill, ad_h, v_h)], [(kWalk, ad_w, v_w)], [(kState, ad_z, v_z)], kn_pool kRule gn_pr ad_pr v_pr]) H locs → lv_has ls 4 [(0, .ref (ad_t 0)), (1, .int y1)] → PX8_fillWritten_L2 v_c v_h gn_pr post n y1 v_t v_w v_z v_pr → W p l e rmX8_fillWritten s m args below meth c H locs 0 0 (kn_Qv D tc w0 (fun (u : OV × OV × OV × (Nat → OV)) => (List.flatten [[(kTin, ad_t, u.1)], [(kScene, ad_c, v_c)], [(kHill, ad_h, v_h)], [(kWalk, ad_w, u.2.1)], [(kState, ad_z, u.2.2.1)], kn_pool kRule gn_pr ad_pr u.2.2.2])) (fun (u : OV × OV × OV × (Nat → OV)) => post u.1 u.2.1 u.2.2.1 u.2.2.2) below args s 0 0) (F0 m 2 ls []) := by
  obtain ⟨S0, hr, hlocks, hK, hZ, hA⟩ := id X
  obtain ⟨hx, hb, hml, hown, hts⟩ := id S0
  intro n
  induction n with
  | zero =>
    intro H locs ls y1 v_t v_w v_z v_pr I hl h
    unfold PX8_fillWritten_L2 at h
    exact h.elim
  | succ n ih =>
    intro H locs ls y1 v_t v_w v_z v_pr I hl h
    unfold PX8_fillWritten_L2 at h
    refine lv_iload_n hx hb (kn_dec tX8_fillWritten 2 rfl) rfl (lv_at hl 1 rfl) ?_
    refine lv_aload_n hx hb (kn_dec tX8_fillWritten 3 rfl) rfl (lv_at hl 0 rfl) ?_
    refine kw_geti hx hb hts inX8 hown hK I 0 rfl rfl 5 (by decide) rfl (hts _ q2_104) (kn_dec tX8_fillWritten 4 rfl) ?_
    refine lv_icmp_gt (tgt := 92) hx hb (kn_dec tX8_fillWritten 5 rfl) (by decide) (fun c1 => ?_) (fun c1 => ?_)
    · have h := h.1 c1
      exact kw_vret hx hb hr hlocks I (v_t, v_w, v_z, v_pr) rfl h (kn_dec tX8_fillWritten 49 rfl)
    · have h := h.2 c1
      refine lv_aload_n hx hb (kn_dec tX8_fillWritten 6 rfl) rfl (lv_at hl 0 rfl) ?_
      refine lv_iload_n hx hb (kn_dec tX8_fillWritten 7 rfl) rfl (lv_at hl 1 rfl) ?_
      refine lv_iconst (v := (1)) hx hb (kn_dec tX8_fillWritten 8 rfl) (by decide) ?_
      refine lv_isub hx hb (kn_dec tX8_fillWritten 9 rfl) ?_
      have I : kn_I D tc (kn_A w0 s.heap.size) s.heap ((List.flatten [[(kTin, ad_t, _)], kn_pool kRule gn_pr ad_pr _]) ++ (List.flatten [[(kScene, ad_c, _)], [(kHill, ad_h, _)], [(kWalk, ad_w, _)], [(kState, ad_z, _)]])) _ _ := I.perm (kn_segA (segs := [[(kTin, ad_t, _)], [(kScene, ad_c, _)], [(kHill, ad_h, _)], [(kWalk, ad_w, _)], [(kState, ad_z, _)], kn_pool kRule gn_pr ad_pr _]) (sC := [[(kTin, ad_t, _)], kn_pool kRule gn_pr ad_pr _]) (sR := [[(kScene, ad_c, _)], [(kHill, ad_h, _)], [(kWalk, ad_w, _)], [(kState, ad_z, _)]]) [0, 5, 1, 2, 3, 4] rfl rfl)
      refine kw_callq (wc := (List.flatten [[(kTin, ad_t, _)], kn_pool kRule gn_pr ad_pr _])) (wr := (List.flatten [[(kScene, ad_c, _)], [(kHill, ad_h, _)], [(kWalk, ad_w, _)], [(kState, ad_z, _)]])) I hA (kn_pl1 _ _) (kn_pl2 _ _) (kn_pl1_ok _ _) (kn_pl2_ok _ _) (kn_pl2_nd _ _) (kn_pl_dis _ _) (kn_runV (As := [.int _]) S0 hK hZ hA I ((ctX8_ruleOf p_t_4 h).met _) (kn_cwV 1 hts q3_179 q3_181 q0_15 q1_1 q3_182 rfl rfl (by decide +kernel) ⟨(Nat.le_of_ble_eq_true rfl), (Nat.le_of_ble_eq_true rfl)⟩) (kn_pl1 _ _) (kn_pl1_ok _ _) (kn_pl1_nd _ _) 0 rfl rfl rfl rfl hl.1 rfl (Nat.le_of_ble_eq_true rfl) (kn_dec tX8_fillWritten 10 rfl) ⟨(Nat.le_of_ble_eq_true rfl), (Nat.le_of_ble_eq_true rfl)⟩) (fun r2 u3 H locs h I => ?_)
      obtain ⟨r2, ho_r2, rfl, h⟩ := h
      have I : kn_I D tc (kn_A w0 s.heap.size) s.heap (List.flatten [[(kTin, ad_t, _)], [(kScene, ad_c, _)], [(kHill, ad_h, _)], [(kWalk, ad_w, _)], [(kState, ad_z, _)], kn_pool kRule gn_pr ad_pr _]) _ _ := I.perm (kn_segB (sC := [[(kScene, ad_c, _)], [(kHill, ad_h, _)], [(kWalk, ad_w, _)], [(kState, ad_z, _)]]) (sR := [[(kTin, ad_t, _)], kn_pool kRule gn_pr ad_pr _]) (segs := [[(kTin, ad_t, _)], [(kScene, ad_c, _)], [(kHill, ad_h, _)], [(kWalk, ad_w, _)], [(kState, ad_z, _)], kn_pool kRule gn_pr ad_pr _]) [4, 0, 1, 2, 3, 5] rfl rfl)
      refine kw_astoreq_n (lv' := [(2, va_rf (r2.map (fun i => ad_pr i 0))), (0, .ref (ad_t 0)), (1, .int y1)]) hx hb (kn_dec tX8_fillWritten 11 rfl) rfl hl (by decide) rfl (fun ls hl => ?_)
      refine lv_aload_n hx hb (kn_dec tX8_fillWritten 12 rfl) rfl (lv_at hl 1 rfl) ?_
      refine kw_getl hx hb hts inX8 hown hK I 0 rfl rfl 9 (by decide) rfl (hts _ q2_108) (kn_dec tX8_fillWritten 13 rfl) e_t_9 ?_
      refine lv_aload_n hx hb (kn_dec tX8_fillWritten 14 rfl) rfl (lv_at hl 1 rfl) ?_
      refine kw_getl hx hb hts inX8 hown hK I 0 rfl rfl 6 (by decide) rfl (hts _ q2_105) (kn_dec tX8_fillWritten 15 rfl) e_t_6 ?_
      refine kw_getl hx hb hts inX5 hown hK I 1 rfl rfl 0 (by decide) rfl (hts _ q2_28) (kn_dec tX8_fillWritten 16 rfl) e_c_0 ?_
      have I : kn_I D tc (kn_A w0 s.heap.size) s.heap ([(kState, ad_z, _), (kHill, ad_h, _)] ++ (List.flatten [[(kTin, ad_t, _)], [(kScene, ad_c, _)], [(kWalk, ad_w, _)], kn_pool kRule gn_pr ad_pr _])) _ _ := I.perm (kn_segA (segs := [[(kTin, ad_t, _)], [(kScene, ad_c, _)], [(kHill, ad_h, _)], [(kWalk, ad_w, _)], [(kState, ad_z, _)], kn_pool kRule gn_pr ad_pr _]) (sC := [[(kState, ad_z, _)], [(kHill, ad_h, _)]]) (sR := [[(kTin, ad_t, _)], [(kScene, ad_c, _)], [(kWalk, ad_w, _)], kn_pool kRule gn_pr ad_pr _]) [4, 2, 0, 1, 3, 5] rfl rfl)
      refine kw_callv (wc := [(kState, ad_z, _), (kHill, ad_h, _)]) (wr := (List.flatten [[(kTin, ad_t, _)], [(kScene, ad_c, _)], [(kWalk, ad_w, _)], kn_pool kRule gn_pr ad_pr _])) I hA (kn_pl1 _ _) (kn_pl2 _ _) (kn_pl1_ok _ _) (kn_pl2_ok _ _) (kn_pl2_nd _ _) (kn_pl_dis _ _) (kn_runV (As := [.ref (ad_h 0)]) S0 hK hZ hA I ((ctX6_begin h).met _) (kn_cwV 1 hts q4_138 q3_36 q3_37 q1_8 q3_38 rfl rfl (by decide +kernel) ⟨(Nat.le_of_ble_eq_true rfl), (Nat.le_of_ble_eq_true rfl)⟩) (kn_pl1 _ _) (kn_pl1_ok _ _) (kn_pl1_nd _ _) 0 rfl rfl rfl rfl hl.1 rfl (Nat.le_of_ble_eq_true rfl) (kn_dec tX8_fillWritten 17 rfl) ⟨(Nat.le_of_ble_eq_true rfl), (Nat.le_of_ble_eq_true rfl)⟩) (fun u5 H locs h I => ?_)
      have I : kn_I D tc (kn_A w0 s.heap.size) s.heap (List.flatten [[(kTin, ad_t, _)], [(kScene, ad_c, _)], [(kHill, ad_h, _)], [(kWalk, ad_w, _)], [(kState, ad_z, _)], kn_pool kRule gn_pr ad_pr _]) _ _ := I.perm (kn_segB (sC := [[(kTin, ad_t, _)], [(kScene, ad_c, _)], [(kWalk, ad_w, _)], kn_pool kRule gn_pr ad_pr _]) (sR := [[(kState, ad_z, _)], [(kHill, ad_h, _)]]) (segs := [[(kTin, ad_t, _)], [(kScene, ad_c, _)], [(kHill, ad_h, _)], [(kWalk, ad_w, _)], [(kState, ad_z, _)], kn_pool kRule gn_pr ad_pr _]) [0, 1, 5, 2, 4, 3] rfl rfl)
      refine lv_iconst (v := (0)) hx hb (kn_dec tX8_fillWritten 18 rfl) (by decide) ?_
      refine lv_istore_n (lv' := [(3, .int ((0 : Int32))), (2, va_rf (r2.map (fun i => ad_pr i 0))), (0, .ref (ad_t 0)), (1, .int y1)]) hx hb (kn_dec tX8_fillWritten 19 rfl) rfl hl (by decide) (by cases r2 <;> rfl) (fun ls hl => ?_)
      obtain ⟨n6, h⟩ := h
      exact wX8_fillWritten_L34 X e_t_6 e_c_0 e_t_8 e_t_9 g_t_10 p_t_4 ih n6 _ _ _ _ _ _ _ _ _ _ ho_r2 I (lv_sub hl [2, 3, 1, 0] rfl) h
def PX8_fillWritten  (v_t : OV) (v_c : OV) (v_h : OV) (v_w : OV) (v_z : OV) (v_pr : (Nat → OV)) (gn_pr : Nat) (post : OV → OV → OV → (Nat → OV) → Prop) : Prop := (∃ n1 : Nat, PX8_fillWritten_L2 v_c v_h gn_pr post n1 ((0 : Int32)) v_t v_w v_z v_pr)
set_option maxRecDepth 100000 in
set_option maxHeartbeats 1000000 in
theorem ctX8_fillWritten {l : Launch} {D : va_G} {tc : Nat → ClassId} {Z : (Nat → Nat) × (Nat → Nat)}  {ad_t : Nat → Nat} {ad_c : Nat → Nat} {ad_h : Nat → Nat} {ad_w : Nat → Nat} {ad_z : Nat → Nat} {ad_pr : Nat → Nat → Nat} {v_t : OV} {v_c : OV} {v_h : OV} {v_w : OV} {v_z : OV} {v_pr : (Nat → OV)} {gn_pr : Nat} (e_t_6 : ad_t (6 + 1) = ad_c 0) (e_c_0 : ad_c (0 + 1) = ad_h 0) (e_t_8 : ad_t (8 + 1) = ad_w 0) (e_t_9 : ad_t (9 + 1) = ad_z 0) (g_t_10 : ∀ i, i < 7 → kn_q ad_t 10 i = some (ad_t (100 + i + 1))) (p_t_4 : ∀ i, i < gn_pr → kn_q ad_t 4 i = some (ad_pr i 0))   {post : OV → OV → OV → (Nat → OV) → Prop} (h : PX8_fillWritten  v_t v_c v_h v_w v_z v_pr gn_pr post) : CTv l D tc Z yX8_fillWritten (Cond.code yX8_fillWritten cX8_fillWritten 4 none :: kn_all) rmX8_fillWritten 0 0 [.ref (ad_t 0)] (List.flatten [[(kTin, ad_t, v_t)], [(kScene, ad_c, v_c)], [(kHill, ad_h, v_h)], [(kWalk, ad_w, v_w)], [(kState, ad_z, v_z)], kn_pool kRule gn_pr ad_pr v_pr]) (fun (u : OV × OV × OV × (Nat → OV)) => (List.flatten [[(kTin, ad_t, u.1)], [(kScene, ad_c, v_c)], [(kHill, ad_h, v_h)], [(kWalk, ad_w, u.2.1)], [(kState, ad_z, u.2.2.1)], kn_pool kRule gn_pr ad_pr u.2.2.2])) (fun (u : OV × OV × OV × (Nat → OV)) => post u.1 u.2.1 u.2.2.1 u.2.2.2) := by
  refine kn_ofv (cc := cX8_fillWritten) (nL := 4) (ret := none) (lv := [(0, .ref (ad_t 0))]) (by decide) (Nat.le_of_ble_eq_true rfl) rfl (fun p e s m below meth c ls X I hl _ => ?_)
  obtain ⟨S0, hr, hlocks, hK, hZ, hA⟩ := id X
  obtain ⟨hx, hb, hml, hown, hts⟩ := id S0
  unfold PX8_fillWritten at h
  refine lv_iconst (v := (0)) hx hb (kn_dec tX8_fillWritten 0 rfl) (by decide) ?_
  refine lv_istore_n (lv' := [(1, .int _), (0, .ref (ad_t 0))]) hx hb (kn_dec tX8_fillWritten 1 rfl) rfl hl (by decide) rfl (fun ls hl => ?_)
  obtain ⟨n1, h⟩ := h
  exact wX8_fillWritten_L2 X e_t_6 e_c_0 e_t_8 e_t_9 g_t_10 p_t_4 n1 _ _ _ _ _ _ _ _  I (lv_sub hl [1, 0] rfl) h

/-! X8_ruled -/
abbrev rmX8_ruled : Room := { frames := 7, cells := 0, slots := 0, locals := 190 }
def PX8_ruled_L23 (v_c : OV) (v_h : OV) (gn_pr : Nat)  (post : Int32 → OV → OV → OV → (Nat → OV) → Prop) : Nat → Int32 → Int32 → Int32 → Int32 → OV → OV → OV → (Nat → OV) → Prop
  | 0, _, _, _, _, _, _, _, _ => False
  | n + 1, y1, y2, y3, y4, v_t, v_w, v_z, v_pr => (((v_t.1 5) < y4 → ((¬ y1 = ((0 : Int32)) → post y3 v_t v_w v_z v_pr) ∧ (y1 = ((0 : Int32)) → post y2 v_t v_w v_z v_pr))) ∧ (¬ (v_t.1 5) < y4 → (PX8_isAsNamed v_t v_c y4 (fun r3 => ((r3 = ((0 : Int32)) → (∀ x6 : Int32, x6 = y4 + (1 : Int32) → PX8_ruled_L23 v_c v_h gn_pr post n y1 y2 y3 x6 v_t v_w v_z v_pr)) ∧ (¬ r3 = ((0 : Int32)) → ((¬ y2 = ((0 : Int32)) → (∀ x8 : Int32, x8 = y2 + (1 : Int32) → (∀ x9 : Int32, x9 = y4 + (1 : Int32) → PX8_ruled_L23 v_c v_h gn_pr post n y1 x8 y3 x9 v_t v_w v_z v_pr))) ∧ (y2 = ((0 : Int32)) → (∀ x10 : Int32, x10 = (y4 - ((1 : Int32))) → (∀ x11 : Int32, x11 = y2 + (1 : Int32) → (∀ x12 : Int32, x12 = y4 + (1 : Int32) → PX8_ruled_L23 v_c v_h gn_pr post n y1 x11 x10 x12 v_t v_w v_z v_pr)))))))))))
set_option maxRecDepth 100000 in
set_option maxHeartbeats 1000000 in
theorem wX8_ruled_L23 {v_c : OV} {v_h : OV} {gn_pr : Nat}  {post : Int32 → OV → OV → OV → (Nat → OV) → Prop} {ad_t : Nat → Nat} {ad_c : Nat → Nat} {ad_h : Nat → Nat} {ad_w : Nat → Nat} {ad_z : Nat → Nat} {ad_pr : Nat → Nat → Nat} (X : kn_X p s m args meth c cX8_ruled 5 (some .int) RX8 kn_all D tc Z (kn_A w0 s.heap.size)) (e_t_6 : ad_t (6 + 1) = ad_c 0) (e_c_0 : ad_c (0 + 1) = ad_h 0) (e_t_8 : ad_t (8 + 1) = ad_w 0) (e_t_9 : ad_t (9 + 1) = ad_z 0) (g_t_10 : ∀ i, i < 7 → kn_q ad_t 10 i = some (ad_t (100 + i + 1))) (p_t_4 : ∀ i, i < gn_pr → kn_q ad_t 4 i = some (ad_pr i 0))   : ∀ n : Nat, ∀ (H : Heap) (locs : List Loc) (ls : Array Slot) (y1 : Int32) (y2 : Int32) (y3 : Int32) (y4 : Int32) (v_t : OV) (v_w : OV) (v_z : OV) (v_pr : (Nat → OV)), kn_I D tc (kn_A w0 s.heap.size) s.heap (List.flatten [[(kTin, ad_t, v_t)], [(kScene, ad_c, v_c)], [(kHill, ad_h, v_h)], [(kWalk, ad_w, v_w)], [(kState, ad_z, v_z)], kn_pool kRule gn_pr ad_pr v_pr]) H locs → lv_has ls 5 [(0, .ref (ad_t 0)), (1, .int y1), (2, .int y2), (3, .int y3), (4, .int y4)] → PX8_ruled_L23 v_c v_h gn_pr post n y1 y2 y3 y4 v_t v_w v_z v_pr → W p l e rmX8_ruled s m args below meth c H locs 0 0 (kn_Qi D tc w0 (fun (u : OV × OV × OV × (Nat → OV)) => (List.flatten [[(kTin, ad_t, u.1)], [(kScene, ad_c, v_c)], [(kHill, ad_h, v_h)], [(kWalk, ad_w, u.2.1)], [(kState, ad_z, u.2.2.1)], kn_pool kRule gn_pr ad_pr u.2.2.2])) (fun (r : Int32) (u : OV × OV × OV × (Nat → OV)) => post r u.1 u.2.1 u.2.2.1 u.2.2.2) below args s 0 0) (F0 m 23 ls []) := by
  obtain ⟨S0, hr, hlocks, hK, hZ, hA⟩ := id X
  obtain ⟨hx, hb, hml, hown, hts⟩ := id S0
  intro n
  induction n with
  | zero =>
    intro H locs ls y1 y2 y3 y4 v_t v_w v_z v_pr I hl h
    unfold PX8_ruled_L23 at h
    exact h.elim
  | succ n ih =>
    intro H locs ls y1 y2 y3 y4 v_t v_w v_z v_pr I hl h
    unfold PX8_ruled_L23 at h
    refine lv_iload hx hb (kn_dec tX8_ruled 14 rfl) (lv_at hl 4 rfl) ?_
    refine lv_aload_n hx hb (kn_dec tX8_ruled 15 rfl) rfl (lv_at hl 0 rfl) ?_
    refine kw_geti hx hb hts inX8 hown hK I 0 rfl rfl 5 (by decide) rfl (hts _ q2_104) (kn_dec tX8_ruled 16 rfl) ?_
    refine lv_icmp_gt (tgt := 63) hx hb (kn_dec tX8_ruled 17 rfl) (by decide) (fun c1 => ?_) (fun c1 => ?_)
    · have h := h.1 c1
      refine lv_iload_n hx hb (kn_dec tX8_ruled 33 rfl) rfl (lv_at hl 1 rfl) ?_
      refine lv_if_ne (tgt := 71) hx hb (kn_dec tX8_ruled 34 rfl) (by decide) (fun c2 => ?_) (fun c2 => ?_)
      · have h := h.1 c2
        refine lv_iload_n hx hb (kn_dec tX8_ruled 37 rfl) rfl (lv_at hl 3 rfl) ?_
        exact kw_iret hx hb hr hlocks I (v_t, v_w, v_z, v_pr) rfl h (kn_dec tX8_ruled 38 rfl)
      · have h := h.2 c2
        refine lv_iload_n hx hb (kn_dec tX8_ruled 35 rfl) rfl (lv_at hl 2 rfl) ?_
        refine lv_goto (tgt := 72) hx hb (kn_dec tX8_ruled 36 rfl) (by decide) ?_
        exact kw_iret hx hb hr hlocks I (v_t, v_w, v_z, v_pr) rfl h (kn_dec tX8_ruled 38 rfl)
    · have h := h.2 c1
      refine lv_aload_n hx hb (kn_dec tX8_ruled 18 rfl) rfl (lv_at hl 0 rfl) ?_
      refine lv_iload hx hb (kn_dec tX8_ruled 19 rfl) (lv_at hl 4 rfl) ?_
      have I : kn_I D tc (kn_A w0 s.heap.size) s.heap ([(kTin, ad_t, _), (kScene, ad_c, _)] ++ (List.flatten [[(kHill, ad_h, _)], [(kWalk, ad_w, _)], [(kState, ad_z, _)], kn_pool kRule gn_pr ad_pr _])) _ _ := I.perm (kn_segA (segs := [[(kTin, ad_t, _)], [(kScene, ad_c, _)], [(kHill, ad_h, _)], [(kWalk, ad_w, _)], [(kState, ad_z, _)], kn_pool kRule gn_pr ad_pr _]) (sC := [[(kTin, ad_t, _)], [(kScene, ad_c, _)]]) (sR := [[(kHill, ad_h, _)], [(kWalk, ad_w, _)], [(kState, ad_z, _)], kn_pool kRule gn_pr ad_pr _]) [0, 1, 2, 3, 4, 5] rfl rfl)
      refine kw_calli (wc := [(kTin, ad_t, _), (kScene, ad_c, _)]) (wr := (List.flatten [[(kHill, ad_h, _)], [(kWalk, ad_w, _)], [(kState, ad_z, _)], kn_pool kRule gn_pr ad_pr _])) I hA (kn_pl1 _ _) (kn_pl2 _ _) (kn_pl1_ok _ _) (kn_pl2_ok _ _) (kn_pl2_nd _ _) (kn_pl_dis _ _) (kn_runV (As := [.int _]) S0 hK hZ hA I ((ctX8_isAsNamed e_t_6 g_t_10 h).met _) (kn_cwV 1 hts q4_140 q4_142 q0_26 q1_1 q4_143 rfl rfl (by decide +kernel) ⟨(Nat.le_of_ble_eq_true rfl), (Nat.le_of_ble_eq_true rfl)⟩) (kn_pl1 _ _) (kn_pl1_ok _ _) (kn_pl1_nd _ _) 0 rfl rfl rfl rfl hl.1 rfl (Nat.le_of_ble_eq_true rfl) (kn_dec tX8_ruled 20 rfl) ⟨(Nat.le_of_ble_eq_true rfl), (Nat.le_of_ble_eq_true rfl)⟩) (fun r3 u4 H locs h I => ?_)
      obtain ⟨hz_r3, h⟩ := h
      have I : kn_I D tc (kn_A w0 s.heap.size) s.heap (List.flatten [[(kTin, ad_t, _)], [(kScene, ad_c, _)], [(kHill, ad_h, _)], [(kWalk, ad_w, _)], [(kState, ad_z, _)], kn_pool kRule gn_pr ad_pr _]) _ _ := I.perm (kn_segB (sC := [[(kHill, ad_h, _)], [(kWalk, ad_w, _)], [(kState, ad_z, _)], kn_pool kRule gn_pr ad_pr _]) (sR := [[(kTin, ad_t, _)], [(kScene, ad_c, _)]]) (segs := [[(kTin, ad_t, _)], [(kScene, ad_c, _)], [(kHill, ad_h, _)], [(kWalk, ad_w, _)], [(kState, ad_z, _)], kn_pool kRule gn_pr ad_pr _]) [4, 5, 0, 1, 2, 3] rfl rfl)
      refine lv_if_eq (tgt := 57) hx hb (kn_dec tX8_ruled 21 rfl) (by decide) (fun c5 => ?_) (fun c5 => ?_)
      · have h := h.1 c5
        refine kw_iinc (lvf := fun y => [(4, .int y), (0, .ref (ad_t 0)), (1, .int _), (2, .int _), (3, .int _)]) (nv := (1)) hx hb (kn_dec tX8_ruled 31 rfl) hl (k := 4) rfl (by decide) (by decide) (fun _ => rfl) (fun x6 ex6 ls hl => ?_)
        have h := h x6 ex6
        refine lv_goto (tgt := 23) hx hb (kn_dec tX8_ruled 32 rfl) (by decide) ?_
        exact ih _ _ _ _ _ _ _ _ _ _ _  I (lv_sub hl [1, 2, 3, 4, 0] rfl) h
      · have h := h.2 c5
        refine lv_iload_n hx hb (kn_dec tX8_ruled 22 rfl) rfl (lv_at hl 2 rfl) ?_
        refine lv_if_ne (tgt := 52) hx hb (kn_dec tX8_ruled 23 rfl) (by decide) (fun c7 => ?_) (fun c7 => ?_)
        · have h := h.1 c7
          refine lv_iload_n hx hb (kn_dec tX8_ruled 28 rfl) rfl (lv_at hl 3 rfl) ?_
          refine lv_istore_n (lv' := [(3, .int _), (0, .ref (ad_t 0)), (1, .int _), (2, .int _), (4, .int _)]) hx hb (kn_dec tX8_ruled 29 rfl) rfl hl (by decide) rfl (fun ls hl => ?_)
          refine kw_iinc (lvf := fun y => [(2, .int y), (3, .int _), (0, .ref (ad_t 0)), (1, .int _), (4, .int _)]) (nv := (1)) hx hb (kn_dec tX8_ruled 30 rfl) hl (k := 3) rfl (by decide) (by decide) (fun _ => rfl) (fun x8 ex8 ls hl => ?_)
          have h := h x8 ex8
          refine kw_iinc (lvf := fun y => [(4, .int y), (2, .int _), (3, .int _), (0, .ref (ad_t 0)), (1, .int _)]) (nv := (1)) hx hb (kn_dec tX8_ruled 31 rfl) hl (k := 4) rfl (by decide) (by decide) (fun _ => rfl) (fun x9 ex9 ls hl => ?_)
          have h := h x9 ex9
          refine lv_goto (tgt := 23) hx hb (kn_dec tX8_ruled 32 rfl) (by decide) ?_
          exact ih _ _ _ _ _ _ _ _ _ _ _  I (lv_sub hl [3, 4, 1, 2, 0] rfl) h
        · have h := h.2 c7
          refine lv_iload hx hb (kn_dec tX8_ruled 24 rfl) (lv_at hl 4 rfl) ?_
          refine lv_iconst (v := (1)) hx hb (kn_dec tX8_ruled 25 rfl) (by decide) ?_
          refine lv_isub hx hb (kn_dec tX8_ruled 26 rfl) ?_
          refine lv_goto (tgt := 53) hx hb (kn_dec tX8_ruled 27 rfl) (by decide) ?_
          refine lv_topi (fun x10 ex10 => ?_)
          have h := h x10 ex10
          refine lv_istore_n (lv' := [(3, .int _), (0, .ref (ad_t 0)), (1, .int _), (2, .int _), (4, .int _)]) hx hb (kn_dec tX8_ruled 29 rfl) rfl hl (by decide) rfl (fun ls hl => ?_)
          refine kw_iinc (lvf := fun y => [(2, .int y), (3, .int _), (0, .ref (ad_t 0)), (1, .int _), (4, .int _)]) (nv := (1)) hx hb (kn_dec tX8_ruled 30 rfl) hl (k := 3) rfl (by decide) (by decide) (fun _ => rfl) (fun x11 ex11 ls hl => ?_)
          have h := h x11 ex11
          refine kw_iinc (lvf := fun y => [(4, .int y), (2, .int _), (3, .int _), (0, .ref (ad_t 0)), (1, .int _)]) (nv := (1)) hx hb (kn_dec tX8_ruled 31 rfl) hl (k := 4) rfl (by decide) (by decide) (fun _ => rfl) (fun x12 ex12 ls hl => ?_)
          have h := h x12 ex12
          refine lv_goto (tgt := 23) hx hb (kn_dec tX8_ruled 32 rfl) (by decide) ?_
          exact ih _ _ _ _ _ _ _ _ _ _ _  I (lv_sub hl [3, 4, 1, 2, 0] rfl) h
def PX8_ruled  (v_t : OV) (v_c : OV) (v_h : OV) (v_w : OV) (v_z : OV) (v_pr : (Nat → OV)) (gn_pr : Nat) (a1 : Int32) (post : Int32 → OV → OV → OV → (Nat → OV) → Prop) : Prop := (PX8_isTold v_t v_c v_h a1 (fun r1 => ((¬ r1 = ((0 : Int32)) → (PX8_fillWritten v_t v_c v_h v_w v_z v_pr gn_pr (fun v_t4 v_w5 v_z6 v_pr7 => (∃ n9 : Nat, PX8_ruled_L23 v_c v_h gn_pr post n9 a1 ((0 : Int32)) ((-2 : Int32)) ((0 : Int32)) v_t4 v_w5 v_z6 v_pr7)))) ∧ (r1 = ((0 : Int32)) → post ((-3 : Int32)) v_t v_w v_z v_pr))))
set_option maxRecDepth 100000 in
set_option maxHeartbeats 1000000 in
theorem ctX8_ruled {l : Launch} {D : va_G} {tc : Nat → ClassId} {Z : (Nat → Nat) × (Nat → Nat)}  {ad_t : Nat → Nat} {ad_c : Nat → Nat} {ad_h : Nat → Nat} {ad_w : Nat → Nat} {ad_z : Nat → Nat} {ad_pr : Nat → Nat → Nat} {v_t : OV} {v_c : OV} {v_h : OV} {v_w : OV} {v_z : OV} {v_pr : (Nat → OV)} {gn_pr : Nat} {a1 : Int32} (e_t_6 : ad_t (6 + 1) = ad_c 0) (e_c_0 : ad_c (0 + 1) = ad_h 0) (e_t_8 : ad_t (8 + 1) = ad_w 0) (e_t_9 : ad_t (9 + 1) = ad_z 0) (g_t_10 : ∀ i, i < 7 → kn_q ad_t 10 i = some (ad_t (100 + i + 1))) (p_t_4 : ∀ i, i < gn_pr → kn_q ad_t 4 i = some (ad_pr i 0))   {post : Int32 → OV → OV → OV → (Nat → OV) → Prop} (h : PX8_ruled  v_t v_c v_h v_w v_z v_pr gn_pr a1 post) : CTi l D tc Z yX8_ruled (Cond.code yX8_ruled cX8_ruled 5 (some .int) :: kn_all) rmX8_ruled 0 0 [.ref (ad_t 0), .int a1] (List.flatten [[(kTin, ad_t, v_t)], [(kScene, ad_c, v_c)], [(kHill, ad_h, v_h)], [(kWalk, ad_w, v_w)], [(kState, ad_z, v_z)], kn_pool kRule gn_pr ad_pr v_pr]) (fun (u : OV × OV × OV × (Nat → OV)) => (List.flatten [[(kTin, ad_t, u.1)], [(kScene, ad_c, v_c)], [(kHill, ad_h, v_h)], [(kWalk, ad_w, u.2.1)], [(kState, ad_z, u.2.2.1)], kn_pool kRule gn_pr ad_pr u.2.2.2])) (fun (r : Int32) (u : OV × OV × OV × (Nat → OV)) => post r u.1 u.2.1 u.2.2.1 u.2.2.2) := by
  refine kn_ofi (cc := cX8_ruled) (nL := 5) (ret := (some .int)) (lv := [(0, .ref (ad_t 0)), (1, .int a1)]) (by decide) (Nat.le_of_ble_eq_true rfl) rfl (fun p e s m below meth c ls X I hl _ => ?_)
  obtain ⟨S0, hr, hlocks, hK, hZ, hA⟩ := id X
  obtain ⟨hx, hb, hml, hown, hts⟩ := id S0
  unfold PX8_ruled at h
  refine lv_aload_n hx hb (kn_dec tX8_ruled 0 rfl) rfl (lv_at hl 0 rfl) ?_
  refine lv_iload_n hx hb (kn_dec tX8_ruled 1 rfl) rfl (lv_at hl 1 rfl) ?_
  have I : kn_I D tc (kn_A _ s.heap.size) s.heap ([(kTin, ad_t, _), (kScene, ad_c, _), (kHill, ad_h, _)] ++ (List.flatten [[(kWalk, ad_w, _)], [(kState, ad_z, _)], kn_pool kRule gn_pr ad_pr _])) _ _ := I.perm (kn_segA (segs := [[(kTin, ad_t, _)], [(kScene, ad_c, _)], [(kHill, ad_h, _)], [(kWalk, ad_w, _)], [(kState, ad_z, _)], kn_pool kRule gn_pr ad_pr _]) (sC := [[(kTin, ad_t, _)], [(kScene, ad_c, _)], [(kHill, ad_h, _)]]) (sR := [[(kWalk, ad_w, _)], [(kState, ad_z, _)], kn_pool kRule gn_pr ad_pr _]) [0, 1, 2, 3, 4, 5] rfl rfl)
  refine kw_calli (wc := [(kTin, ad_t, _), (kScene, ad_c, _), (kHill, ad_h, _)]) (wr := (List.flatten [[(kWalk, ad_w, _)], [(kState, ad_z, _)], kn_pool kRule gn_pr ad_pr _])) I hA (kn_pl1 _ _) (kn_pl2 _ _) (kn_pl1_ok _ _) (kn_pl2_ok _ _) (kn_pl2_nd _ _) (kn_pl_dis _ _) (kn_runV (As := [.int _]) S0 hK hZ hA I ((ctX8_isTold e_t_6 e_c_0 h).met _) (kn_cwV 1 hts q4_58 q4_60 q0_22 q1_1 q4_61 rfl rfl (by decide +kernel) ⟨(Nat.le_of_ble_eq_true rfl), (Nat.le_of_ble_eq_true rfl)⟩) (kn_pl1 _ _) (kn_pl1_ok _ _) (kn_pl1_nd _ _) 0 rfl rfl rfl rfl hl.1 rfl (Nat.le_of_ble_eq_true rfl) (kn_dec tX8_ruled 2 rfl) ⟨(Nat.le_of_ble_eq_true rfl), (Nat.le_of_ble_eq_true rfl)⟩) (fun r1 u2 H locs h I => ?_)
  obtain ⟨hz_r1, h⟩ := h
  have I : kn_I D tc (kn_A _ s.heap.size) s.heap (List.flatten [[(kTin, ad_t, _)], [(kScene, ad_c, _)], [(kHill, ad_h, _)], [(kWalk, ad_w, _)], [(kState, ad_z, _)], kn_pool kRule gn_pr ad_pr _]) _ _ := I.perm (kn_segB (sC := [[(kWalk, ad_w, _)], [(kState, ad_z, _)], kn_pool kRule gn_pr ad_pr _]) (sR := [[(kTin, ad_t, _)], [(kScene, ad_c, _)], [(kHill, ad_h, _)]]) (segs := [[(kTin, ad_t, _)], [(kScene, ad_c, _)], [(kHill, ad_h, _)], [(kWalk, ad_w, _)], [(kState, ad_z, _)], kn_pool kRule gn_pr ad_pr _]) [3, 4, 5, 0, 1, 2] rfl rfl)
  refine lv_if_ne (tgt := 11) hx hb (kn_dec tX8_ruled 3 rfl) (by decide) (fun c3 => ?_) (fun c3 => ?_)
  · have h := h.1 c3
    refine lv_aload_n hx hb (kn_dec tX8_ruled 6 rfl) rfl (lv_at hl 0 rfl) ?_
    have I : kn_I D tc (kn_A _ s.heap.size) s.heap ((List.flatten [[(kTin, ad_t, _)], [(kScene, ad_c, _)], [(kHill, ad_h, _)], [(kWalk, ad_w, _)], [(kState, ad_z, _)], kn_pool kRule gn_pr ad_pr _]) ++ (List.flatten [])) _ _ := I.perm (kn_segA (segs := [[(kTin, ad_t, _)], [(kScene, ad_c, _)], [(kHill, ad_h, _)], [(kWalk, ad_w, _)], [(kState, ad_z, _)], kn_pool kRule gn_pr ad_pr _]) (sC := [[(kTin, ad_t, _)], [(kScene, ad_c, _)], [(kHill, ad_h, _)], [(kWalk, ad_w, _)], [(kState, ad_z, _)], kn_pool kRule gn_pr ad_pr _]) (sR := []) [0, 1, 2, 3, 4, 5] rfl rfl)
    refine kw_callv (wc := (List.flatten [[(kTin, ad_t, _)], [(kScene, ad_c, _)], [(kHill, ad_h, _)], [(kWalk, ad_w, _)], [(kState, ad_z, _)], kn_pool kRule gn_pr ad_pr _])) (wr := (List.flatten [])) I hA (kn_pl1 _ _) (kn_pl2 _ _) (kn_pl1_ok _ _) (kn_pl2_ok _ _) (kn_pl2_nd _ _) (kn_pl_dis _ _) (kn_runV (As := []) S0 hK hZ hA I ((ctX8_fillWritten e_t_6 e_c_0 e_t_8 e_t_9 g_t_10 p_t_4 h).met _) (kn_cwV 0 hts q4_134 q4_136 q0_25 q1_1 q4_137 rfl rfl (by decide +kernel) ⟨(Nat.le_of_ble_eq_true rfl), (Nat.le_of_ble_eq_true rfl)⟩) (kn_pl1 _ _) (kn_pl1_ok _ _) (kn_pl1_nd _ _) 0 rfl rfl rfl rfl hl.1 rfl (Nat.le_of_ble_eq_true rfl) (kn_dec tX8_ruled 7 rfl) ⟨(Nat.le_of_ble_eq_true rfl), (Nat.le_of_ble_eq_true rfl)⟩) (fun u8 H locs h I => ?_)
    have I : kn_I D tc (kn_A _ s.heap.size) s.heap (List.flatten [[(kTin, ad_t, _)], [(kScene, ad_c, _)], [(kHill, ad_h, _)], [(kWalk, ad_w, _)], [(kState, ad_z, _)], kn_pool kRule gn_pr ad_pr _]) _ _ := I.perm (kn_segB (sC := []) (sR := [[(kTin, ad_t, _)], [(kScene, ad_c, _)], [(kHill, ad_h, _)], [(kWalk, ad_w, _)], [(kState, ad_z, _)], kn_pool kRule gn_pr ad_pr _]) (segs := [[(kTin, ad_t, _)], [(kScene, ad_c, _)], [(kHill, ad_h, _)], [(kWalk, ad_w, _)], [(kState, ad_z, _)], kn_pool kRule gn_pr ad_pr _]) [0, 1, 2, 3, 4, 5] rfl rfl)
    refine lv_iconst (v := (0)) hx hb (kn_dec tX8_ruled 8 rfl) (by decide) ?_
    refine lv_istore_n (lv' := [(2, .int _), (0, .ref (ad_t 0)), (1, .int _)]) hx hb (kn_dec tX8_ruled 9 rfl) rfl hl (by decide) rfl (fun ls hl => ?_)
    refine lv_bipush (v := (-2)) hx hb (kn_dec tX8_ruled 10 rfl) (by decide) ?_
    refine lv_istore_n (lv' := [(3, .int _), (2, .int _), (0, .ref (ad_t 0)), (1, .int _)]) hx hb (kn_dec tX8_ruled 11 rfl) rfl hl (by decide) rfl (fun ls hl => ?_)
    refine lv_iconst (v := (0)) hx hb (kn_dec tX8_ruled 12 rfl) (by decide) ?_
    refine lv_istore (lv' := [(4, .int _), (3, .int _), (2, .int _), (0, .ref (ad_t 0)), (1, .int _)]) hx hb (kn_dec tX8_ruled 13 rfl) hl (by decide) rfl (fun ls hl => ?_)
    obtain ⟨n9, h⟩ := h
    exact wX8_ruled_L23 X e_t_6 e_c_0 e_t_8 e_t_9 g_t_10 p_t_4 n9 _ _ _ _ _ _ _ _ _ _ _  I (lv_sub hl [3, 4, 2, 1, 0] rfl) h
  · have h := h.2 c3
    refine lv_bipush (v := (-3)) hx hb (kn_dec tX8_ruled 4 rfl) (by decide) ?_
    exact kw_iret hx hb hr hlocks I (v_t, v_w, v_z, v_pr) rfl h (kn_dec tX8_ruled 5 rfl)

/-! X8_ask -/
abbrev rmX8_ask : Room := { frames := 7, cells := 0, slots := 0, locals := 190 }
def PX8_ask_b63 (v_c : OV) (v_h : OV) (gn_pr : Nat) (K23 : Int32 → Int32 → Int32 → Int32 → OV → OV → OV → (Nat → OV) → Prop) (post : Int32 → OV → OV → OV → (Nat → OV) → Prop) (y1 : Int32) (y4 : Int32) (y5 : Int32) (v_t : OV) (v_w : OV) (v_z : OV) (v_pr : (Nat → OV)) : Prop := (∀ x1 : Int32, x1 = y4 + (1 : Int32) → K23 y1 y4 y5 x1 v_t v_w v_z v_pr)
set_option maxRecDepth 100000 in
set_option maxHeartbeats 1000000 in
theorem wX8_ask_b63 {v_c : OV} {v_h : OV} {gn_pr : Nat} {K23 : Int32 → Int32 → Int32 → Int32 → OV → OV → OV → (Nat → OV) → Prop} {post : Int32 → OV → OV → OV → (Nat → OV) → Prop} {ad_t : Nat → Nat} {ad_c : Nat → Nat} {ad_h : Nat → Nat} {ad_w : Nat → Nat} {ad_z : Nat → Nat} {ad_pr : Nat → Nat → Nat} (X : kn_X p s m args meth c cX8_ask 6 (some .int) RX8 kn_all D tc Z (kn_A w0 s.heap.size)) (e_t_6 : ad_t (6 + 1) = ad_c 0) (e_c_0 : ad_c (0 + 1) = ad_h 0) (e_t_8 : ad_t (8 + 1) = ad_w 0) (e_t_9 : ad_t (9 + 1) = ad_z 0) (g_t_10 : ∀ i, i < 7 → kn_q ad_t 10 i = some (ad_t (100 + i + 1))) (p_t_4 : ∀ i, i < gn_pr → kn_q ad_t 4 i = some (ad_pr i 0))  (hK23 : ∀ (H : Heap) (locs : List Loc) (ls : Array Slot) (y1 : Int32) (y2 : Int32) (y3 : Int32) (y4 : Int32) (v_t : OV) (v_w : OV) (v_z : OV) (v_pr : (Nat → OV)), kn_I D tc (kn_A w0 s.heap.size) s.heap (List.flatten [[(kTin, ad_t, v_t)], [(kScene, ad_c, v_c)], [(kHill, ad_h, v_h)], [(kWalk, ad_w, v_w)], [(kState, ad_z, v_z)], kn_pool kRule gn_pr ad_pr v_pr]) H locs → lv_has ls 6 [(0, .ref (ad_t 0)), (1, .int y1), (2, .int y2), (3, .int y3), (4, .int y4)] → K23 y1 y2 y3 y4 v_t v_w v_z v_pr → W p l e rmX8_ask s m args below meth c H locs 0 0 (kn_Qi D tc w0 (fun (u : OV × OV × OV × (Nat → OV)) => (List.flatten [[(kTin, ad_t, u.1)], [(kScene, ad_c, v_c)], [(kHill, ad_h, v_h)], [(kWalk, ad_w, u.2.1)], [(kState, ad_z, u.2.2.1)], kn_pool kRule gn_pr ad_pr u.2.2.2])) (fun (r : Int32) (u : OV × OV × OV × (Nat → OV)) => post r u.1 u.2.1 u.2.2.1 u.2.2.2) below args s 0 0) (F0 m 23 ls [])) : ∀ (H : Heap) (locs : List Loc) (ls : Array Slot) (y1 : Int32) (y4 : Int32) (y5 : Int32) (v_t : OV) (v_w : OV) (v_z : OV) (v_pr : (Nat → OV)), kn_I D tc (kn_A w0 s.heap.size) s.heap (List.flatten [[(kTin, ad_t, v_t)], [(kScene, ad_c, v_c)], [(kHill, ad_h, v_h)], [(kWalk, ad_w, v_w)], [(kState, ad_z, v_z)], kn_pool kRule gn_pr ad_pr v_pr]) H locs → lv_has ls 6 [(0, .ref (ad_t 0)), (1, .int y1), (4, .int y4), (5, .int y5)] → PX8_ask_b63 v_c v_h gn_pr K23 post y1 y4 y5 v_t v_w v_z v_pr → W p l e rmX8_ask s m args below meth c H locs 0 0 (kn_Qi D tc w0 (fun (u : OV × OV × OV × (Nat → OV)) => (List.flatten [[(kTin, ad_t, u.1)], [(kScene, ad_c, v_c)], [(kHill, ad_h, v_h)], [(kWalk, ad_w, u.2.1)], [(kState, ad_z, u.2.2.1)], kn_pool kRule gn_pr ad_pr u.2.2.2])) (fun (r : Int32) (u : OV × OV × OV × (Nat → OV)) => post r u.1 u.2.1 u.2.2.1 u.2.2.2) below args s 0 0) (F0 m 63 ls []) := by
  obtain ⟨S0, hr, hlocks, hK, hZ, hA⟩ := id X
  obtain ⟨hx, hb, hml, hown, hts⟩ := id S0
  intro H locs ls y1 y4 y5 v_t v_w v_z v_pr I hl h
  unfold PX8_ask_b63 at h
  refine lv_iload hx hb (kn_dec tX8_ask 32 rfl) (lv_at hl 2 rfl) ?_
  refine lv_istore_n (lv' := [(2, .int _), (0, .ref (ad_t 0)), (1, .int _), (4, .int _), (5, .int _)]) hx hb (kn_dec tX8_ask 33 rfl) rfl hl (by decide) rfl (fun ls hl => ?_)
  refine lv_iload hx hb (kn_dec tX8_ask 34 rfl) (lv_at hl 4 rfl) ?_
  refine lv_istore_n (lv' := [(3, .int _), (2, .int _), (0, .ref (ad_t 0)), (1, .int _), (4, .int _), (5, .int _)]) hx hb (kn_dec tX8_ask 35 rfl) rfl hl (by decide) rfl (fun ls hl => ?_)
  refine kw_iinc (lvf := fun y => [(4, .int y), (3, .int _), (2, .int _), (0, .ref (ad_t 0)), (1, .int _), (5, .int _)]) (nv := (1)) hx hb (kn_dec tX8_ask 36 rfl) hl (k := 4) rfl (by decide) (by decide) (fun _ => rfl) (fun x1 ex1 ls hl => ?_)
  have h := h x1 ex1
  refine lv_goto (tgt := 23) hx hb (kn_dec tX8_ask 37 rfl) (by decide) ?_
  exact hK23 _ _ _ _ _ _ _ _ _ _ _  I (lv_sub hl [3, 4, 2, 1, 0] rfl) h
def PX8_ask_L23 (v_c : OV) (v_h : OV) (gn_pr : Nat)  (post : Int32 → OV → OV → OV → (Nat → OV) → Prop) : Nat → Int32 → Int32 → Int32 → Int32 → OV → OV → OV → (Nat → OV) → Prop
  | 0, _, _, _, _, _, _, _, _ => False
  | n + 1, y1, y2, y3, y4, v_t, v_w, v_z, v_pr => (((v_h.1 11) ≤ y4 → ((¬ y1 = ((0 : Int32)) → post y3 v_t v_w v_z v_pr) ∧ (y1 = ((0 : Int32)) → post y2 v_t v_w v_z v_pr))) ∧ (¬ (v_h.1 11) ≤ y4 → (PX8_mostAlike v_t v_c y4 (fun r3 => ((r3 ≤ ((0 : Int32)) → (∀ x6 : Int32, x6 = y4 + (1 : Int32) → PX8_ask_L23 v_c v_h gn_pr post n y1 y2 y3 x6 v_t v_w v_z v_pr)) ∧ (¬ r3 ≤ ((0 : Int32)) → ((y2 = ((-2 : Int32)) → PX8_ask_b63 v_c v_h gn_pr (PX8_ask_L23 v_c v_h gn_pr post n) post y1 y4 r3 v_t v_w v_z v_pr) ∧ (¬ y2 = ((-2 : Int32)) → ((y3 ≤ r3 → (∀ x9 : Int32, x9 = y4 + (1 : Int32) → PX8_ask_L23 v_c v_h gn_pr post n y1 y2 y3 x9 v_t v_w v_z v_pr)) ∧ (¬ y3 ≤ r3 → PX8_ask_b63 v_c v_h gn_pr (PX8_ask_L23 v_c v_h gn_pr post n) post y1 y4 r3 v_t v_w v_z v_pr))))))))))
set_option maxRecDepth 100000 in
set_option maxHeartbeats 1000000 in
theorem wX8_ask_L23 {v_c : OV} {v_h : OV} {gn_pr : Nat}  {post : Int32 → OV → OV → OV → (Nat → OV) → Prop} {ad_t : Nat → Nat} {ad_c : Nat → Nat} {ad_h : Nat → Nat} {ad_w : Nat → Nat} {ad_z : Nat → Nat} {ad_pr : Nat → Nat → Nat} (X : kn_X p s m args meth c cX8_ask 6 (some .int) RX8 kn_all D tc Z (kn_A w0 s.heap.size)) (e_t_6 : ad_t (6 + 1) = ad_c 0) (e_c_0 : ad_c (0 + 1) = ad_h 0) (e_t_8 : ad_t (8 + 1) = ad_w 0) (e_t_9 : ad_t (9 + 1) = ad_z 0) (g_t_10 : ∀ i, i < 7 → kn_q ad_t 10 i = some (ad_t (100 + i + 1))) (p_t_4 : ∀ i, i < gn_pr → kn_q ad_t 4 i = some (ad_pr i 0))   : ∀ n : Nat, ∀ (H : Heap) (locs : List Loc) (ls : Array Slot) (y1 : Int32) (y2 : Int32) (y3 : Int32) (y4 : Int32) (v_t : OV) (v_w : OV) (v_z : OV) (v_pr : (Nat → OV)), kn_I D tc (kn_A w0 s.heap.size) s.heap (List.flatten [[(kTin, ad_t, v_t)], [(kScene, ad_c, v_c)], [(kHill, ad_h, v_h)], [(kWalk, ad_w, v_w)], [(kState, ad_z, v_z)], kn_pool kRule gn_pr ad_pr v_pr]) H locs → lv_has ls 6 [(0, .ref (ad_t 0)), (1, .int y1), (2, .int y2), (3, .int y3), (4, .int y4)] → PX8_ask_L23 v_c v_h gn_pr post n y1 y2 y3 y4 v_t v_w v_z v_pr → W p l e rmX8_ask s m args below meth c H locs 0 0 (kn_Qi D tc w0 (fun (u : OV × OV × OV × (Nat → OV)) => (List.flatten [[(kTin, ad_t, u.1)], [(kScene, ad_c, v_c)], [(kHill, ad_h, v_h)], [(kWalk, ad_w, u.2.1)], [(kState, ad_z, u.2.2.1)], kn_pool kRule gn_pr ad_pr u.2.2.2])) (fun (r : Int32) (u : OV × OV × OV × (Nat → OV)) => post r u.1 u.2.1 u.2.2.1 u.2.2.2) below args s 0 0) (F0 m 23 ls []) := by
  obtain ⟨S0, hr, hlocks, hK, hZ, hA⟩ := id X
  obtain ⟨hx, hb, hml, hown, hts⟩ := id S0
  intro n
  induction n with
  | zero =>
    intro H locs ls y1 y2 y3 y4 v_t v_w v_z v_pr I hl h
    unfold PX8_ask_L23 at h
    exact h.elim
  | succ n ih =>
    intro H locs ls y1 y2 y3 y4 v_t v_w v_z v_pr I hl h
    unfold PX8_ask_L23 at h
    refine lv_iload hx hb (kn_dec tX8_ask 14 rfl) (lv_at hl 4 rfl) ?_
    refine lv_aload_n hx hb (kn_dec tX8_ask 15 rfl) rfl (lv_at hl 0 rfl) ?_
    refine kw_getl hx hb hts inX8 hown hK I 0 rfl rfl 6 (by decide) rfl (hts _ q2_105) (kn_dec tX8_ask 16 rfl) e_t_6 ?_
    refine kw_getl hx hb hts inX5 hown hK I 1 rfl rfl 0 (by decide) rfl (hts _ q2_28) (kn_dec tX8_ask 17 rfl) e_c_0 ?_
    refine kw_geti hx hb hts inX0 hown hK I 2 rfl rfl 11 (by decide) rfl (hts _ q1_156) (kn_dec tX8_ask 18 rfl) ?_
    refine lv_icmp_ge (tgt := 75) hx hb (kn_dec tX8_ask 19 rfl) (by decide) (fun c1 => ?_) (fun c1 => ?_)
    · have h := h.1 c1
      refine lv_iload_n hx hb (kn_dec tX8_ask 38 rfl) rfl (lv_at hl 1 rfl) ?_
      refine lv_if_ne (tgt := 83) hx hb (kn_dec tX8_ask 39 rfl) (by decide) (fun c2 => ?_) (fun c2 => ?_)
      · have h := h.1 c2
        refine lv_iload_n hx hb (kn_dec tX8_ask 42 rfl) rfl (lv_at hl 3 rfl) ?_
        exact kw_iret hx hb hr hlocks I (v_t, v_w, v_z, v_pr) rfl h (kn_dec tX8_ask 43 rfl)
      · have h := h.2 c2
        refine lv_iload_n hx hb (kn_dec tX8_ask 40 rfl) rfl (lv_at hl 2 rfl) ?_
        refine lv_goto (tgt := 84) hx hb (kn_dec tX8_ask 41 rfl) (by decide) ?_
        exact kw_iret hx hb hr hlocks I (v_t, v_w, v_z, v_pr) rfl h (kn_dec tX8_ask 43 rfl)
    · have h := h.2 c1
      refine lv_aload_n hx hb (kn_dec tX8_ask 20 rfl) rfl (lv_at hl 0 rfl) ?_
      refine lv_iload hx hb (kn_dec tX8_ask 21 rfl) (lv_at hl 4 rfl) ?_
      have I : kn_I D tc (kn_A w0 s.heap.size) s.heap ([(kTin, ad_t, _), (kScene, ad_c, _)] ++ (List.flatten [[(kHill, ad_h, _)], [(kWalk, ad_w, _)], [(kState, ad_z, _)], kn_pool kRule gn_pr ad_pr _])) _ _ := I.perm (kn_segA (segs := [[(kTin, ad_t, _)], [(kScene, ad_c, _)], [(kHill, ad_h, _)], [(kWalk, ad_w, _)], [(kState, ad_z, _)], kn_pool kRule gn_pr ad_pr _]) (sC := [[(kTin, ad_t, _)], [(kScene, ad_c, _)]]) (sR := [[(kHill, ad_h, _)], [(kWalk, ad_w, _)], [(kState, ad_z, _)], kn_pool kRule gn_pr ad_pr _]) [0, 1, 2, 3, 4, 5] rfl rfl)
      refine kw_calli (wc := [(kTin, ad_t, _), (kScene, ad_c, _)]) (wr := (List.flatten [[(kHill, ad_h, _)], [(kWalk, ad_w, _)], [(kState, ad_z, _)], kn_pool kRule gn_pr ad_pr _])) I hA (kn_pl1 _ _) (kn_pl2 _ _) (kn_pl1_ok _ _) (kn_pl2_ok _ _) (kn_pl2_nd _ _) (kn_pl_dis _ _) (kn_runV (As := [.int _]) S0 hK hZ hA I ((ctX8_mostAlike e_t_6 g_t_10 h).met _) (kn_cwV 1 hts q4_152 q4_154 q0_28 q1_1 q4_155 rfl rfl (by decide +kernel) ⟨(Nat.le_of_ble_eq_true rfl), (Nat.le_of_ble_eq_true rfl)⟩) (kn_pl1 _ _) (kn_pl1_ok _ _) (kn_pl1_nd _ _) 0 rfl rfl rfl rfl hl.1 rfl (Nat.le_of_ble_eq_true rfl) (kn_dec tX8_ask 22 rfl) ⟨(Nat.le_of_ble_eq_true rfl), (Nat.le_of_ble_eq_true rfl)⟩) (fun r3 u4 H locs h I => ?_)
      have I : kn_I D tc (kn_A w0 s.heap.size) s.heap (List.flatten [[(kTin, ad_t, _)], [(kScene, ad_c, _)], [(kHill, ad_h, _)], [(kWalk, ad_w, _)], [(kState, ad_z, _)], kn_pool kRule gn_pr ad_pr _]) _ _ := I.perm (kn_segB (sC := [[(kHill, ad_h, _)], [(kWalk, ad_w, _)], [(kState, ad_z, _)], kn_pool kRule gn_pr ad_pr _]) (sR := [[(kTin, ad_t, _)], [(kScene, ad_c, _)]]) (segs := [[(kTin, ad_t, _)], [(kScene, ad_c, _)], [(kHill, ad_h, _)], [(kWalk, ad_w, _)], [(kState, ad_z, _)], kn_pool kRule gn_pr ad_pr _]) [4, 5, 0, 1, 2, 3] rfl rfl)
      refine lv_istore (lv' := [(5, .int _), (0, .ref (ad_t 0)), (1, .int _), (2, .int _), (3, .int _), (4, .int _)]) hx hb (kn_dec tX8_ask 23 rfl) hl (by decide) rfl (fun ls hl => ?_)
      refine lv_iload hx hb (kn_dec tX8_ask 24 rfl) (lv_at hl 0 rfl) ?_
      refine lv_if_le (tgt := 69) hx hb (kn_dec tX8_ask 25 rfl) (by decide) (fun c5 => ?_) (fun c5 => ?_)
      · have h := h.1 c5
        refine kw_iinc (lvf := fun y => [(4, .int y), (5, .int _), (0, .ref (ad_t 0)), (1, .int _), (2, .int _), (3, .int _)]) (nv := (1)) hx hb (kn_dec tX8_ask 36 rfl) hl (k := 5) rfl (by decide) (by decide) (fun _ => rfl) (fun x6 ex6 ls hl => ?_)
        have h := h x6 ex6
        refine lv_goto (tgt := 23) hx hb (kn_dec tX8_ask 37 rfl) (by decide) ?_
        exact ih _ _ _ _ _ _ _ _ _ _ _  I (lv_sub hl [2, 3, 4, 5, 0] rfl) h
      · have h := h.2 c5
        refine lv_iload_n hx hb (kn_dec tX8_ask 26 rfl) rfl (lv_at hl 3 rfl) ?_
        refine lv_bipush (v := (-2)) hx hb (kn_dec tX8_ask 27 rfl) (by decide) ?_
        refine lv_icmp_eq (tgt := 63) hx hb (kn_dec tX8_ask 28 rfl) (by decide) (fun c7 => ?_) (fun c7 => ?_)
        · have h := h.1 c7
          exact wX8_ask_b63 X e_t_6 e_c_0 e_t_8 e_t_9 g_t_10 p_t_4 ih _ _ _ _ _ _ _ _ _ _  I (lv_sub hl [1, 2, 5, 0] rfl) h
        · have h := h.2 c7
          refine lv_iload hx hb (kn_dec tX8_ask 29 rfl) (lv_at hl 0 rfl) ?_
          refine lv_iload_n hx hb (kn_dec tX8_ask 30 rfl) rfl (lv_at hl 4 rfl) ?_
          refine lv_icmp_ge (tgt := 69) hx hb (kn_dec tX8_ask 31 rfl) (by decide) (fun c8 => ?_) (fun c8 => ?_)
          · have h := h.1 c8
            refine kw_iinc (lvf := fun y => [(4, .int y), (5, .int _), (0, .ref (ad_t 0)), (1, .int _), (2, .int _), (3, .int _)]) (nv := (1)) hx hb (kn_dec tX8_ask 36 rfl) hl (k := 5) rfl (by decide) (by decide) (fun _ => rfl) (fun x9 ex9 ls hl => ?_)
            have h := h x9 ex9
            refine lv_goto (tgt := 23) hx hb (kn_dec tX8_ask 37 rfl) (by decide) ?_
            exact ih _ _ _ _ _ _ _ _ _ _ _  I (lv_sub hl [2, 3, 4, 5, 0] rfl) h
          · have h := h.2 c8
            exact wX8_ask_b63 X e_t_6 e_c_0 e_t_8 e_t_9 g_t_10 p_t_4 ih _ _ _ _ _ _ _ _ _ _  I (lv_sub hl [1, 2, 5, 0] rfl) h
def PX8_ask  (v_t : OV) (v_c : OV) (v_h : OV) (v_w : OV) (v_z : OV) (v_pr : (Nat → OV)) (gn_pr : Nat) (a1 : Int32) (post : Int32 → OV → OV → OV → (Nat → OV) → Prop) : Prop := (PX8_isTold v_t v_c v_h a1 (fun r1 => ((¬ r1 = ((0 : Int32)) → (PX8_fillWritten v_t v_c v_h v_w v_z v_pr gn_pr (fun v_t4 v_w5 v_z6 v_pr7 => (∃ n9 : Nat, PX8_ask_L23 v_c v_h gn_pr post n9 a1 ((-2 : Int32)) ((-2 : Int32)) ((0 : Int32)) v_t4 v_w5 v_z6 v_pr7)))) ∧ (r1 = ((0 : Int32)) → post ((-1 : Int32)) v_t v_w v_z v_pr))))
set_option maxRecDepth 100000 in
set_option maxHeartbeats 1000000 in
theorem ctX8_ask {l : Launch} {D : va_G} {tc : Nat → ClassId} {Z : (Nat → Nat) × (Nat → Nat)}  {ad_t : Nat → Nat} {ad_c : Nat → Nat} {ad_h : Nat → Nat} {ad_w : Nat → Nat} {ad_z : Nat → Nat} {ad_pr : Nat → Nat → Nat} {v_t : OV} {v_c : OV} {v_h : OV} {v_w : OV} {v_z : OV} {v_pr : (Nat → OV)} {gn_pr : Nat} {a1 : Int32} (e_t_6 : ad_t (6 + 1) = ad_c 0) (e_c_0 : ad_c (0 + 1) = ad_h 0) (e_t_8 : ad_t (8 + 1) = ad_w 0) (e_t_9 : ad_t (9 + 1) = ad_z 0) (g_t_10 : ∀ i, i < 7 → kn_q ad_t 10 i = some (ad_t (100 + i + 1))) (p_t_4 : ∀ i, i < gn_pr → kn_q ad_t 4 i = some (ad_pr i 0))   {post : Int32 → OV → OV → OV → (Nat → OV) → Prop} (h : PX8_ask  v_t v_c v_h v_w v_z v_pr gn_pr a1 post) : CTi l D tc Z yX8_ask (Cond.code yX8_ask cX8_ask 6 (some .int) :: kn_all) rmX8_ask 0 0 [.ref (ad_t 0), .int a1] (List.flatten [[(kTin, ad_t, v_t)], [(kScene, ad_c, v_c)], [(kHill, ad_h, v_h)], [(kWalk, ad_w, v_w)], [(kState, ad_z, v_z)], kn_pool kRule gn_pr ad_pr v_pr]) (fun (u : OV × OV × OV × (Nat → OV)) => (List.flatten [[(kTin, ad_t, u.1)], [(kScene, ad_c, v_c)], [(kHill, ad_h, v_h)], [(kWalk, ad_w, u.2.1)], [(kState, ad_z, u.2.2.1)], kn_pool kRule gn_pr ad_pr u.2.2.2])) (fun (r : Int32) (u : OV × OV × OV × (Nat → OV)) => post r u.1 u.2.1 u.2.2.1 u.2.2.2) := by
  refine kn_ofi (cc := cX8_ask) (nL := 6) (ret := (some .int)) (lv := [(0, .ref (ad_t 0)), (1, .int a1)]) (by decide) (Nat.le_of_ble_eq_true rfl) rfl (fun p e s m below meth c ls X I hl _ => ?_)
  obtain ⟨S0, hr, hlocks, hK, hZ, hA⟩ := id X
  obtain ⟨hx, hb, hml, hown, hts⟩ := id S0
  unfold PX8_ask at h
  refine lv_aload_n hx hb (kn_dec tX8_ask 0 rfl) rfl (lv_at hl 0 rfl) ?_
  refine lv_iload_n hx hb (kn_dec tX8_ask 1 rfl) rfl (lv_at hl 1 rfl) ?_
  have I : kn_I D tc (kn_A _ s.heap.size) s.heap ([(kTin, ad_t, _), (kScene, ad_c, _), (kHill, ad_h, _)] ++ (List.flatten [[(kWalk, ad_w, _)], [(kState, ad_z, _)], kn_pool kRule gn_pr ad_pr _])) _ _ := I.perm (kn_segA (segs := [[(kTin, ad_t, _)], [(kScene, ad_c, _)], [(kHill, ad_h, _)], [(kWalk, ad_w, _)], [(kState, ad_z, _)], kn_pool kRule gn_pr ad_pr _]) (sC := [[(kTin, ad_t, _)], [(kScene, ad_c, _)], [(kHill, ad_h, _)]]) (sR := [[(kWalk, ad_w, _)], [(kState, ad_z, _)], kn_pool kRule gn_pr ad_pr _]) [0, 1, 2, 3, 4, 5] rfl rfl)
  refine kw_calli (wc := [(kTin, ad_t, _), (kScene, ad_c, _), (kHill, ad_h, _)]) (wr := (List.flatten [[(kWalk, ad_w, _)], [(kState, ad_z, _)], kn_pool kRule gn_pr ad_pr _])) I hA (kn_pl1 _ _) (kn_pl2 _ _) (kn_pl1_ok _ _) (kn_pl2_ok _ _) (kn_pl2_nd _ _) (kn_pl_dis _ _) (kn_runV (As := [.int _]) S0 hK hZ hA I ((ctX8_isTold e_t_6 e_c_0 h).met _) (kn_cwV 1 hts q4_58 q4_60 q0_22 q1_1 q4_61 rfl rfl (by decide +kernel) ⟨(Nat.le_of_ble_eq_true rfl), (Nat.le_of_ble_eq_true rfl)⟩) (kn_pl1 _ _) (kn_pl1_ok _ _) (kn_pl1_nd _ _) 0 rfl rfl rfl rfl hl.1 rfl (Nat.le_of_ble_eq_true rfl) (kn_dec tX8_ask 2 rfl) ⟨(Nat.le_of_ble_eq_true rfl), (Nat.le_of_ble_eq_true rfl)⟩) (fun r1 u2 H locs h I => ?_)
  obtain ⟨hz_r1, h⟩ := h
  have I : kn_I D tc (kn_A _ s.heap.size) s.heap (List.flatten [[(kTin, ad_t, _)], [(kScene, ad_c, _)], [(kHill, ad_h, _)], [(kWalk, ad_w, _)], [(kState, ad_z, _)], kn_pool kRule gn_pr ad_pr _]) _ _ := I.perm (kn_segB (sC := [[(kWalk, ad_w, _)], [(kState, ad_z, _)], kn_pool kRule gn_pr ad_pr _]) (sR := [[(kTin, ad_t, _)], [(kScene, ad_c, _)], [(kHill, ad_h, _)]]) (segs := [[(kTin, ad_t, _)], [(kScene, ad_c, _)], [(kHill, ad_h, _)], [(kWalk, ad_w, _)], [(kState, ad_z, _)], kn_pool kRule gn_pr ad_pr _]) [3, 4, 5, 0, 1, 2] rfl rfl)
  refine lv_if_ne (tgt := 10) hx hb (kn_dec tX8_ask 3 rfl) (by decide) (fun c3 => ?_) (fun c3 => ?_)
  · have h := h.1 c3
    refine lv_aload_n hx hb (kn_dec tX8_ask 6 rfl) rfl (lv_at hl 0 rfl) ?_
    have I : kn_I D tc (kn_A _ s.heap.size) s.heap ((List.flatten [[(kTin, ad_t, _)], [(kScene, ad_c, _)], [(kHill, ad_h, _)], [(kWalk, ad_w, _)], [(kState, ad_z, _)], kn_pool kRule gn_pr ad_pr _]) ++ (List.flatten [])) _ _ := I.perm (kn_segA (segs := [[(kTin, ad_t, _)], [(kScene, ad_c, _)], [(kHill, ad_h, _)], [(kWalk, ad_w, _)], [(kState, ad_z, _)], kn_pool kRule gn_pr ad_pr _]) (sC := [[(kTin, ad_t, _)], [(kScene, ad_c, _)], [(kHill, ad_h, _)], [(kWalk, ad_w, _)], [(kState, ad_z, _)], kn_pool kRule gn_pr ad_pr _]) (sR := []) [0, 1, 2, 3, 4, 5] rfl rfl)
    refine kw_callv (wc := (List.flatten [[(kTin, ad_t, _)], [(kScene, ad_c, _)], [(kHill, ad_h, _)], [(kWalk, ad_w, _)], [(kState, ad_z, _)], kn_pool kRule gn_pr ad_pr _])) (wr := (List.flatten [])) I hA (kn_pl1 _ _) (kn_pl2 _ _) (kn_pl1_ok _ _) (kn_pl2_ok _ _) (kn_pl2_nd _ _) (kn_pl_dis _ _) (kn_runV (As := []) S0 hK hZ hA I ((ctX8_fillWritten e_t_6 e_c_0 e_t_8 e_t_9 g_t_10 p_t_4 h).met _) (kn_cwV 0 hts q4_134 q4_136 q0_25 q1_1 q4_137 rfl rfl (by decide +kernel) ⟨(Nat.le_of_ble_eq_true rfl), (Nat.le_of_ble_eq_true rfl)⟩) (kn_pl1 _ _) (kn_pl1_ok _ _) (kn_pl1_nd _ _) 0 rfl rfl rfl rfl hl.1 rfl (Nat.le_of_ble_eq_true rfl) (kn_dec tX8_ask 7 rfl) ⟨(Nat.le_of_ble_eq_true rfl), (Nat.le_of_ble_eq_true rfl)⟩) (fun u8 H locs h I => ?_)
    have I : kn_I D tc (kn_A _ s.heap.size) s.heap (List.flatten [[(kTin, ad_t, _)], [(kScene, ad_c, _)], [(kHill, ad_h, _)], [(kWalk, ad_w, _)], [(kState, ad_z, _)], kn_pool kRule gn_pr ad_pr _]) _ _ := I.perm (kn_segB (sC := []) (sR := [[(kTin, ad_t, _)], [(kScene, ad_c, _)], [(kHill, ad_h, _)], [(kWalk, ad_w, _)], [(kState, ad_z, _)], kn_pool kRule gn_pr ad_pr _]) (segs := [[(kTin, ad_t, _)], [(kScene, ad_c, _)], [(kHill, ad_h, _)], [(kWalk, ad_w, _)], [(kState, ad_z, _)], kn_pool kRule gn_pr ad_pr _]) [0, 1, 2, 3, 4, 5] rfl rfl)
    refine lv_bipush (v := (-2)) hx hb (kn_dec tX8_ask 8 rfl) (by decide) ?_
    refine lv_istore_n (lv' := [(2, .int _), (0, .ref (ad_t 0)), (1, .int _)]) hx hb (kn_dec tX8_ask 9 rfl) rfl hl (by decide) rfl (fun ls hl => ?_)
    refine lv_bipush (v := (-2)) hx hb (kn_dec tX8_ask 10 rfl) (by decide) ?_
    refine lv_istore_n (lv' := [(3, .int _), (2, .int _), (0, .ref (ad_t 0)), (1, .int _)]) hx hb (kn_dec tX8_ask 11 rfl) rfl hl (by decide) rfl (fun ls hl => ?_)
    refine lv_iconst (v := (0)) hx hb (kn_dec tX8_ask 12 rfl) (by decide) ?_
    refine lv_istore (lv' := [(4, .int _), (3, .int _), (2, .int _), (0, .ref (ad_t 0)), (1, .int _)]) hx hb (kn_dec tX8_ask 13 rfl) hl (by decide) rfl (fun ls hl => ?_)
    obtain ⟨n9, h⟩ := h
    exact wX8_ask_L23 X e_t_6 e_c_0 e_t_8 e_t_9 g_t_10 p_t_4 n9 _ _ _ _ _ _ _ _ _ _ _  I (lv_sub hl [3, 4, 2, 1, 0] rfl) h
  · have h := h.2 c3
    refine lv_iconst (v := (-1)) hx hb (kn_dec tX8_ask 4 rfl) (by decide) ?_
    exact kw_iret hx hb hr hlocks I (v_t, v_w, v_z, v_pr) rfl h (kn_dec tX8_ask 5 rfl)

/-! X8_forged -/
abbrev rmX8_forged : Room := { frames := 7, cells := 0, slots := 0, locals := 190 }
def PX8_forged_b87 (v_c : OV) (v_h : OV) (gn_pr : Nat) (K23 : Int32 → Int32 → OV → OV → OV → (Nat → OV) → Prop) (post : Int32 → OV → OV → OV → (Nat → OV) → Prop) (t0 : Int32) (t1 : Int32) (y2 : Int32) (v_t : OV) (v_w : OV) (v_z : OV) (v_pr : (Nat → OV)) : Prop := (∀ x1 : Int32, x1 = (t0 ||| t1) → (∀ x2 : Int32, x2 = y2 + (1 : Int32) → K23 x1 x2 v_t v_w v_z v_pr))
set_option maxRecDepth 100000 in
set_option maxHeartbeats 1000000 in
theorem wX8_forged_b87 {v_c : OV} {v_h : OV} {gn_pr : Nat} {K23 : Int32 → Int32 → OV → OV → OV → (Nat → OV) → Prop} {post : Int32 → OV → OV → OV → (Nat → OV) → Prop} {ad_t : Nat → Nat} {ad_c : Nat → Nat} {ad_h : Nat → Nat} {ad_w : Nat → Nat} {ad_z : Nat → Nat} {ad_pr : Nat → Nat → Nat} (X : kn_X p s m args meth c cX8_forged 5 (some .int) RX8 kn_all D tc Z (kn_A w0 s.heap.size)) (e_t_6 : ad_t (6 + 1) = ad_c 0) (e_c_0 : ad_c (0 + 1) = ad_h 0) (e_t_8 : ad_t (8 + 1) = ad_w 0) (e_t_9 : ad_t (9 + 1) = ad_z 0) (g_t_10 : ∀ i, i < 7 → kn_q ad_t 10 i = some (ad_t (100 + i + 1))) (p_t_4 : ∀ i, i < gn_pr → kn_q ad_t 4 i = some (ad_pr i 0))  (hK23 : ∀ (H : Heap) (locs : List Loc) (ls : Array Slot) (y1 : Int32) (y2 : Int32) (v_t : OV) (v_w : OV) (v_z : OV) (v_pr : (Nat → OV)), kn_I D tc (kn_A w0 s.heap.size) s.heap (List.flatten [[(kTin, ad_t, v_t)], [(kScene, ad_c, v_c)], [(kHill, ad_h, v_h)], [(kWalk, ad_w, v_w)], [(kState, ad_z, v_z)], kn_pool kRule gn_pr ad_pr v_pr]) H locs → lv_has ls 5 [(0, .ref (ad_t 0)), (1, .int y1), (2, .int y2)] → K23 y1 y2 v_t v_w v_z v_pr → W p l e rmX8_forged s m args below meth c H locs 0 0 (kn_Qi D tc w0 (fun (u : OV × OV × OV × (Nat → OV)) => (List.flatten [[(kTin, ad_t, u.1)], [(kScene, ad_c, v_c)], [(kHill, ad_h, v_h)], [(kWalk, ad_w, u.2.1)], [(kState, ad_z, u.2.2.1)], kn_pool kRule gn_pr ad_pr u.2.2.2])) (fun (r : Int32) (u : OV × OV × OV × (Nat → OV)) => post r u.1 u.2.1 u.2.2.1 u.2.2.2) below args s 0 0) (F0 m 23 ls [])) : ∀ (H : Heap) (locs : List Loc) (ls : Array Slot) (t0 : Int32) (t1 : Int32) (y2 : Int32) (v_t : OV) (v_w : OV) (v_z : OV) (v_pr : (Nat → OV)), kn_I D tc (kn_A w0 s.heap.size) s.heap (List.flatten [[(kTin, ad_t, v_t)], [(kScene, ad_c, v_c)], [(kHill, ad_h, v_h)], [(kWalk, ad_w, v_w)], [(kState, ad_z, v_z)], kn_pool kRule gn_pr ad_pr v_pr]) H locs → lv_has ls 5 [(0, .ref (ad_t 0)), (2, .int y2)] → PX8_forged_b87 v_c v_h gn_pr K23 post t0 t1 y2 v_t v_w v_z v_pr → W p l e rmX8_forged s m args below meth c H locs 0 0 (kn_Qi D tc w0 (fun (u : OV × OV × OV × (Nat → OV)) => (List.flatten [[(kTin, ad_t, u.1)], [(kScene, ad_c, v_c)], [(kHill, ad_h, v_h)], [(kWalk, ad_w, u.2.1)], [(kState, ad_z, u.2.2.1)], kn_pool kRule gn_pr ad_pr u.2.2.2])) (fun (r : Int32) (u : OV × OV × OV × (Nat → OV)) => post r u.1 u.2.1 u.2.2.1 u.2.2.2) below args s 0 0) (F0 m 87 ls [.int t1, .int t0]) := by
  obtain ⟨S0, hr, hlocks, hK, hZ, hA⟩ := id X
  obtain ⟨hx, hb, hml, hown, hts⟩ := id S0
  intro H locs ls t0 t1 y2 v_t v_w v_z v_pr I hl h
  unfold PX8_forged_b87 at h
  refine lv_ior hx hb (kn_dec tX8_forged 46 rfl) ?_
  refine lv_topi (fun x1 ex1 => ?_)
  have h := h x1 ex1
  refine lv_istore_n (lv' := [(1, .int _), (0, .ref (ad_t 0)), (2, .int _)]) hx hb (kn_dec tX8_forged 47 rfl) rfl hl (by decide) rfl (fun ls hl => ?_)
  refine kw_iinc (lvf := fun y => [(2, .int y), (1, .int _), (0, .ref (ad_t 0))]) (nv := (1)) hx hb (kn_dec tX8_forged 48 rfl) hl (k := 2) rfl (by decide) (by decide) (fun _ => rfl) (fun x2 ex2 ls hl => ?_)
  have h := h x2 ex2
  refine lv_goto (tgt := 23) hx hb (kn_dec tX8_forged 49 rfl) (by decide) ?_
  exact hK23 _ _ _ _ _ _ _ _ _  I (lv_sub hl [2, 1, 0] rfl) h
def PX8_forged_L39 (v_c : OV) (v_h : OV) (gn_pr : Nat) (K23 : Int32 → Int32 → OV → OV → OV → (Nat → OV) → Prop) (post : Int32 → OV → OV → OV → (Nat → OV) → Prop) : Nat → Int32 → Int32 → Int32 → Int32 → OV → OV → OV → (Nat → OV) → Prop
  | 0, _, _, _, _, _, _, _, _ => False
  | n + 1, y1, y2, y3, y4, v_t, v_w, v_z, v_pr => (((v_t.1 5) < y4 → ((y3 = ((0 : Int32)) → (PX8_bit y2 (fun r3 => PX8_forged_b87 v_c v_h gn_pr K23 post y1 r3 y2 v_t v_w v_z v_pr))) ∧ (¬ y3 = ((0 : Int32)) → PX8_forged_b87 v_c v_h gn_pr K23 post y1 ((0 : Int32)) y2 v_t v_w v_z v_pr))) ∧ (¬ (v_t.1 5) < y4 → ((¬ y3 = ((0 : Int32)) → (∀ x6 : Int32, x6 = y4 + (1 : Int32) → PX8_forged_L39 v_c v_h gn_pr K23 post n y1 y2 ((1 : Int32)) x6 v_t v_w v_z v_pr)) ∧ (y3 = ((0 : Int32)) → (PX8_holds v_t v_c y2 y4 (fun r7 => ((r7 = ((0 : Int32)) → (∀ x10 : Int32, x10 = y4 + (1 : Int32) → PX8_forged_L39 v_c v_h gn_pr K23 post n y1 y2 ((0 : Int32)) x10 v_t v_w v_z v_pr)) ∧ (¬ r7 = ((0 : Int32)) → (∀ x11 : Int32, x11 = y4 + (1 : Int32) → PX8_forged_L39 v_c v_h gn_pr K23 post n y1 y2 ((1 : Int32)) x11 v_t v_w v_z v_pr)))))))))
set_option maxRecDepth 100000 in
set_option maxHeartbeats 1000000 in
theorem wX8_forged_L39 {v_c : OV} {v_h : OV} {gn_pr : Nat} {K23 : Int32 → Int32 → OV → OV → OV → (Nat → OV) → Prop} {post : Int32 → OV → OV → OV → (Nat → OV) → Prop} {ad_t : Nat → Nat} {ad_c : Nat → Nat} {ad_h : Nat → Nat} {ad_w : Nat → Nat} {ad_z : Nat → Nat} {ad_pr : Nat → Nat → Nat} (X : kn_X p s m args meth c cX8_forged 5 (some .int) RX8 kn_all D tc Z (kn_A w0 s.heap.size)) (e_t_6 : ad_t (6 + 1) = ad_c 0) (e_c_0 : ad_c (0 + 1) = ad_h 0) (e_t_8 : ad_t (8 + 1) = ad_w 0) (e_t_9 : ad_t (9 + 1) = ad_z 0) (g_t_10 : ∀ i, i < 7 → kn_q ad_t 10 i = some (ad_t (100 + i + 1))) (p_t_4 : ∀ i, i < gn_pr → kn_q ad_t 4 i = some (ad_pr i 0))  (hK23 : ∀ (H : Heap) (locs : List Loc) (ls : Array Slot) (y1 : Int32) (y2 : Int32) (v_t : OV) (v_w : OV) (v_z : OV) (v_pr : (Nat → OV)), kn_I D tc (kn_A w0 s.heap.size) s.heap (List.flatten [[(kTin, ad_t, v_t)], [(kScene, ad_c, v_c)], [(kHill, ad_h, v_h)], [(kWalk, ad_w, v_w)], [(kState, ad_z, v_z)], kn_pool kRule gn_pr ad_pr v_pr]) H locs → lv_has ls 5 [(0, .ref (ad_t 0)), (1, .int y1), (2, .int y2)] → K23 y1 y2 v_t v_w v_z v_pr → W p l e rmX8_forged s m args below meth c H locs 0 0 (kn_Qi D tc w0 (fun (u : OV × OV × OV × (Nat → OV)) => (List.flatten [[(kTin, ad_t, u.1)], [(kScene, ad_c, v_c)], [(kHill, ad_h, v_h)], [(kWalk, ad_w, u.2.1)], [(kState, ad_z, u.2.2.1)], kn_pool kRule gn_pr ad_pr u.2.2.2])) (fun (r : Int32) (u : OV × OV × OV × (Nat → OV)) => post r u.1 u.2.1 u.2.2.1 u.2.2.2) below args s 0 0) (F0 m 23 ls [])) : ∀ n : Nat, ∀ (H : Heap) (locs : List Loc) (ls : Array Slot) (y1 : Int32) (y2 : Int32) (y3 : Int32) (y4 : Int32) (v_t : OV) (v_w : OV) (v_z : OV) (v_pr : (Nat → OV)), (hz_y3 : y3 = 0 ∨ y3 = 1) → kn_I D tc (kn_A w0 s.heap.size) s.heap (List.flatten [[(kTin, ad_t, v_t)], [(kScene, ad_c, v_c)], [(kHill, ad_h, v_h)], [(kWalk, ad_w, v_w)], [(kState, ad_z, v_z)], kn_pool kRule gn_pr ad_pr v_pr]) H locs → lv_has ls 5 [(0, .ref (ad_t 0)), (1, .int y1), (2, .int y2), (3, .int y3), (4, .int y4)] → PX8_forged_L39 v_c v_h gn_pr K23 post n y1 y2 y3 y4 v_t v_w v_z v_pr → W p l e rmX8_forged s m args below meth c H locs 0 0 (kn_Qi D tc w0 (fun (u : OV × OV × OV × (Nat → OV)) => (List.flatten [[(kTin, ad_t, u.1)], [(kScene, ad_c, v_c)], [(kHill, ad_h, v_h)], [(kWalk, ad_w, u.2.1)], [(kState, ad_z, u.2.2.1)], kn_pool kRule gn_pr ad_pr u.2.2.2])) (fun (r : Int32) (u : OV × OV × OV × (Nat → OV)) => post r u.1 u.2.1 u.2.2.1 u.2.2.2) below args s 0 0) (F0 m 39 ls []) := by
  obtain ⟨S0, hr, hlocks, hK, hZ, hA⟩ := id X
  obtain ⟨hx, hb, hml, hown, hts⟩ := id S0
  intro n
  induction n with
  | zero =>
    intro H locs ls y1 y2 y3 y4 v_t v_w v_z v_pr hz_y3 I hl h
    unfold PX8_forged_L39 at h
    exact h.elim
  | succ n ih =>
    intro H locs ls y1 y2 y3 y4 v_t v_w v_z v_pr hz_y3 I hl h
    unfold PX8_forged_L39 at h
    refine lv_iload hx hb (kn_dec tX8_forged 22 rfl) (lv_at hl 4 rfl) ?_
    refine lv_aload_n hx hb (kn_dec tX8_forged 23 rfl) rfl (lv_at hl 0 rfl) ?_
    refine kw_geti hx hb hts inX8 hown hK I 0 rfl rfl 5 (by decide) rfl (hts _ q2_104) (kn_dec tX8_forged 24 rfl) ?_
    refine lv_icmp_gt (tgt := 74) hx hb (kn_dec tX8_forged 25 rfl) (by decide) (fun c1 => ?_) (fun c1 => ?_)
    · have h := h.1 c1
      refine lv_iload_n hx hb (kn_dec tX8_forged 39 rfl) rfl (lv_at hl 1 rfl) ?_
      refine lv_iload_n hx hb (kn_dec tX8_forged 40 rfl) rfl (lv_at hl 3 rfl) ?_
      refine lv_if_eq (tgt := 83) hx hb (kn_dec tX8_forged 41 rfl) (by decide) (fun c2 => ?_) (fun c2 => ?_)
      · have h := h.1 c2
        refine lv_iload_n hx hb (kn_dec tX8_forged 44 rfl) rfl (lv_at hl 2 rfl) ?_
        have I : kn_I D tc (kn_A w0 s.heap.size) s.heap ([] ++ (List.flatten [[(kTin, ad_t, _)], [(kScene, ad_c, _)], [(kHill, ad_h, _)], [(kWalk, ad_w, _)], [(kState, ad_z, _)], kn_pool kRule gn_pr ad_pr _])) _ _ := I.perm (kn_segA (segs := [[(kTin, ad_t, _)], [(kScene, ad_c, _)], [(kHill, ad_h, _)], [(kWalk, ad_w, _)], [(kState, ad_z, _)], kn_pool kRule gn_pr ad_pr _]) (sC := []) (sR := [[(kTin, ad_t, _)], [(kScene, ad_c, _)], [(kHill, ad_h, _)], [(kWalk, ad_w, _)], [(kState, ad_z, _)], kn_pool kRule gn_pr ad_pr _]) [0, 1, 2, 3, 4, 5] rfl rfl)
        refine kw_calli (wc := []) (wr := (List.flatten [[(kTin, ad_t, _)], [(kScene, ad_c, _)], [(kHill, ad_h, _)], [(kWalk, ad_w, _)], [(kState, ad_z, _)], kn_pool kRule gn_pr ad_pr _])) I hA (kn_pl1 _ _) (kn_pl2 _ _) (kn_pl1_ok _ _) (kn_pl2_ok _ _) (kn_pl2_nd _ _) (kn_pl_dis _ _) (kn_runS (As := [.int _]) S0 hK hZ hA I ((ctX8_bit h).met _) (kn_cwS 1 hts q4_82 q4_83 q1_1 q4_84 rfl rfl (by decide +kernel) ⟨(Nat.le_of_ble_eq_true rfl), (Nat.le_of_ble_eq_true rfl)⟩) (kn_pl1 _ _) (kn_pl1_ok _ _) (kn_pl1_nd _ _) rfl hl.1 rfl (Nat.le_of_ble_eq_true rfl) (kn_dec tX8_forged 45 rfl) ⟨(Nat.le_of_ble_eq_true rfl), (Nat.le_of_ble_eq_true rfl)⟩) (fun r3 u4 H locs h I => ?_)
        have I : kn_I D tc (kn_A w0 s.heap.size) s.heap (List.flatten [[(kTin, ad_t, _)], [(kScene, ad_c, _)], [(kHill, ad_h, _)], [(kWalk, ad_w, _)], [(kState, ad_z, _)], kn_pool kRule gn_pr ad_pr _]) _ _ := I.perm (kn_segB (sC := [[(kTin, ad_t, _)], [(kScene, ad_c, _)], [(kHill, ad_h, _)], [(kWalk, ad_w, _)], [(kState, ad_z, _)], kn_pool kRule gn_pr ad_pr _]) (sR := []) (segs := [[(kTin, ad_t, _)], [(kScene, ad_c, _)], [(kHill, ad_h, _)], [(kWalk, ad_w, _)], [(kState, ad_z, _)], kn_pool kRule gn_pr ad_pr _]) [0, 1, 2, 3, 4, 5] rfl rfl)
        exact wX8_forged_b87 X e_t_6 e_c_0 e_t_8 e_t_9 g_t_10 p_t_4 hK23 _ _ _ _ _ _ _ _ _ _  I (lv_sub hl [0, 2] rfl) h
      · have h := h.2 c2
        refine lv_iconst (v := (0)) hx hb (kn_dec tX8_forged 42 rfl) (by decide) ?_
        refine lv_goto (tgt := 87) hx hb (kn_dec tX8_forged 43 rfl) (by decide) ?_
        exact wX8_forged_b87 X e_t_6 e_c_0 e_t_8 e_t_9 g_t_10 p_t_4 hK23 _ _ _ _ _ _ _ _ _ _  I (lv_sub hl [0, 2] rfl) h
    · have h := h.2 c1
      refine lv_iload_n hx hb (kn_dec tX8_forged 26 rfl) rfl (lv_at hl 3 rfl) ?_
      refine lv_if_ne (tgt := 62) hx hb (kn_dec tX8_forged 27 rfl) (by decide) (fun c5 => ?_) (fun c5 => ?_)
      · have h := h.1 c5
        refine lv_iconst (v := (1)) hx hb (kn_dec tX8_forged 33 rfl) (by decide) ?_
        refine lv_goto (tgt := 67) hx hb (kn_dec tX8_forged 34 rfl) (by decide) ?_
        refine lv_istore_n (lv' := [(3, .int _), (0, .ref (ad_t 0)), (1, .int _), (2, .int _), (4, .int _)]) hx hb (kn_dec tX8_forged 36 rfl) rfl hl (by decide) rfl (fun ls hl => ?_)
        refine kw_iinc (lvf := fun y => [(4, .int y), (3, .int _), (0, .ref (ad_t 0)), (1, .int _), (2, .int _)]) (nv := (1)) hx hb (kn_dec tX8_forged 37 rfl) hl (k := 4) rfl (by decide) (by decide) (fun _ => rfl) (fun x6 ex6 ls hl => ?_)
        have h := h x6 ex6
        refine lv_goto (tgt := 39) hx hb (kn_dec tX8_forged 38 rfl) (by decide) ?_
        exact ih _ _ _ _ _ _ _ _ _ _ _ (Or.inr rfl) I (lv_sub hl [2, 3, 4, 1, 0] rfl) h
      · have h := h.2 c5
        refine lv_aload_n hx hb (kn_dec tX8_forged 28 rfl) rfl (lv_at hl 0 rfl) ?_
        refine lv_iload_n hx hb (kn_dec tX8_forged 29 rfl) rfl (lv_at hl 2 rfl) ?_
        refine lv_iload hx hb (kn_dec tX8_forged 30 rfl) (lv_at hl 4 rfl) ?_
        have I : kn_I D tc (kn_A w0 s.heap.size) s.heap ([(kTin, ad_t, _), (kScene, ad_c, _)] ++ (List.flatten [[(kHill, ad_h, _)], [(kWalk, ad_w, _)], [(kState, ad_z, _)], kn_pool kRule gn_pr ad_pr _])) _ _ := I.perm (kn_segA (segs := [[(kTin, ad_t, _)], [(kScene, ad_c, _)], [(kHill, ad_h, _)], [(kWalk, ad_w, _)], [(kState, ad_z, _)], kn_pool kRule gn_pr ad_pr _]) (sC := [[(kTin, ad_t, _)], [(kScene, ad_c, _)]]) (sR := [[(kHill, ad_h, _)], [(kWalk, ad_w, _)], [(kState, ad_z, _)], kn_pool kRule gn_pr ad_pr _]) [0, 1, 2, 3, 4, 5] rfl rfl)
        refine kw_calli (wc := [(kTin, ad_t, _), (kScene, ad_c, _)]) (wr := (List.flatten [[(kHill, ad_h, _)], [(kWalk, ad_w, _)], [(kState, ad_z, _)], kn_pool kRule gn_pr ad_pr _])) I hA (kn_pl1 _ _) (kn_pl2 _ _) (kn_pl1_ok _ _) (kn_pl2_ok _ _) (kn_pl2_nd _ _) (kn_pl_dis _ _) (kn_runV (As := [.int _, .int _]) S0 hK hZ hA I ((ctX8_holds e_t_6 g_t_10 h).met _) (kn_cwV 2 hts q4_144 q4_146 q0_27 q1_1 q4_147 rfl rfl (by decide +kernel) ⟨(Nat.le_of_ble_eq_true rfl), (Nat.le_of_ble_eq_true rfl)⟩) (kn_pl1 _ _) (kn_pl1_ok _ _) (kn_pl1_nd _ _) 0 rfl rfl rfl rfl hl.1 rfl (Nat.le_of_ble_eq_true rfl) (kn_dec tX8_forged 31 rfl) ⟨(Nat.le_of_ble_eq_true rfl), (Nat.le_of_ble_eq_true rfl)⟩) (fun r7 u8 H locs h I => ?_)
        obtain ⟨hz_r7, h⟩ := h
        have I : kn_I D tc (kn_A w0 s.heap.size) s.heap (List.flatten [[(kTin, ad_t, _)], [(kScene, ad_c, _)], [(kHill, ad_h, _)], [(kWalk, ad_w, _)], [(kState, ad_z, _)], kn_pool kRule gn_pr ad_pr _]) _ _ := I.perm (kn_segB (sC := [[(kHill, ad_h, _)], [(kWalk, ad_w, _)], [(kState, ad_z, _)], kn_pool kRule gn_pr ad_pr _]) (sR := [[(kTin, ad_t, _)], [(kScene, ad_c, _)]]) (segs := [[(kTin, ad_t, _)], [(kScene, ad_c, _)], [(kHill, ad_h, _)], [(kWalk, ad_w, _)], [(kState, ad_z, _)], kn_pool kRule gn_pr ad_pr _]) [4, 5, 0, 1, 2, 3] rfl rfl)
        refine lv_if_eq (tgt := 66) hx hb (kn_dec tX8_forged 32 rfl) (by decide) (fun c9 => ?_) (fun c9 => ?_)
        · have h := h.1 c9
          refine lv_iconst (v := (0)) hx hb (kn_dec tX8_forged 35 rfl) (by decide) ?_
          refine lv_istore_n (lv' := [(3, .int _), (0, .ref (ad_t 0)), (1, .int _), (2, .int _), (4, .int _)]) hx hb (kn_dec tX8_forged 36 rfl) rfl hl (by decide) rfl (fun ls hl => ?_)
          refine kw_iinc (lvf := fun y => [(4, .int y), (3, .int _), (0, .ref (ad_t 0)), (1, .int _), (2, .int _)]) (nv := (1)) hx hb (kn_dec tX8_forged 37 rfl) hl (k := 4) rfl (by decide) (by decide) (fun _ => rfl) (fun x10 ex10 ls hl => ?_)
          have h := h x10 ex10
          refine lv_goto (tgt := 39) hx hb (kn_dec tX8_forged 38 rfl) (by decide) ?_
          exact ih _ _ _ _ _ _ _ _ _ _ _ (Or.inl rfl) I (lv_sub hl [2, 3, 4, 1, 0] rfl) h
        · have h := h.2 c9
          refine lv_iconst (v := (1)) hx hb (kn_dec tX8_forged 33 rfl) (by decide) ?_
          refine lv_goto (tgt := 67) hx hb (kn_dec tX8_forged 34 rfl) (by decide) ?_
          refine lv_istore_n (lv' := [(3, .int _), (0, .ref (ad_t 0)), (1, .int _), (2, .int _), (4, .int _)]) hx hb (kn_dec tX8_forged 36 rfl) rfl hl (by decide) rfl (fun ls hl => ?_)
          refine kw_iinc (lvf := fun y => [(4, .int y), (3, .int _), (0, .ref (ad_t 0)), (1, .int _), (2, .int _)]) (nv := (1)) hx hb (kn_dec tX8_forged 37 rfl) hl (k := 4) rfl (by decide) (by decide) (fun _ => rfl) (fun x11 ex11 ls hl => ?_)
          have h := h x11 ex11
          refine lv_goto (tgt := 39) hx hb (kn_dec tX8_forged 38 rfl) (by decide) ?_
          exact ih _ _ _ _ _ _ _ _ _ _ _ (Or.inr rfl) I (lv_sub hl [2, 3, 4, 1, 0] rfl) h
def PX8_forged_L23 (v_c : OV) (v_h : OV) (gn_pr : Nat)  (post : Int32 → OV → OV → OV → (Nat → OV) → Prop) : Nat → Int32 → Int32 → OV → OV → OV → (Nat → OV) → Prop
  | 0, _, _, _, _, _, _ => False
  | n + 1, y1, y2, v_t, v_w, v_z, v_pr => (((v_c.1 7) ≤ y2 → post y1 v_t v_w v_z v_pr) ∧ (¬ (v_c.1 7) ≤ y2 → (∃ n2 : Nat, PX8_forged_L39 v_c v_h gn_pr (PX8_forged_L23 v_c v_h gn_pr post n) post n2 y1 y2 ((0 : Int32)) ((0 : Int32)) v_t v_w v_z v_pr)))
set_option maxRecDepth 100000 in
set_option maxHeartbeats 1000000 in
theorem wX8_forged_L23 {v_c : OV} {v_h : OV} {gn_pr : Nat}  {post : Int32 → OV → OV → OV → (Nat → OV) → Prop} {ad_t : Nat → Nat} {ad_c : Nat → Nat} {ad_h : Nat → Nat} {ad_w : Nat → Nat} {ad_z : Nat → Nat} {ad_pr : Nat → Nat → Nat} (X : kn_X p s m args meth c cX8_forged 5 (some .int) RX8 kn_all D tc Z (kn_A w0 s.heap.size)) (e_t_6 : ad_t (6 + 1) = ad_c 0) (e_c_0 : ad_c (0 + 1) = ad_h 0) (e_t_8 : ad_t (8 + 1) = ad_w 0) (e_t_9 : ad_t (9 + 1) = ad_z 0) (g_t_10 : ∀ i, i < 7 → kn_q ad_t 10 i = some (ad_t (100 + i + 1))) (p_t_4 : ∀ i, i < gn_pr → kn_q ad_t 4 i = some (ad_pr i 0))   : ∀ n : Nat, ∀ (H : Heap) (locs : List Loc) (ls : Array Slot) (y1 : Int32) (y2 : Int32) (v_t : OV) (v_w : OV) (v_z : OV) (v_pr : (Nat → OV)), kn_I D tc (kn_A w0 s.heap.size) s.heap (List.flatten [[(kTin, ad_t, v_t)], [(kScene, ad_c, v_c)], [(kHill, ad_h, v_h)], [(kWalk, ad_w, v_w)], [(kState, ad_z, v_z)], kn_pool kRule gn_pr ad_pr v_pr]) H locs → lv_has ls 5 [(0, .ref (ad_t 0)), (1, .int y1), (2, .int y2)] → PX8_forged_L23 v_c v_h gn_pr post n y1 y2 v_t v_w v_z v_pr → W p l e rmX8_forged s m args below meth c H locs 0 0 (kn_Qi D tc w0 (fun (u : OV × OV × OV × (Nat → OV)) => (List.flatten [[(kTin, ad_t, u.1)], [(kScene, ad_c, v_c)], [(kHill, ad_h, v_h)], [(kWalk, ad_w, u.2.1)], [(kState, ad_z, u.2.2.1)], kn_pool kRule gn_pr ad_pr u.2.2.2])) (fun (r : Int32) (u : OV × OV × OV × (Nat → OV)) => post r u.1 u.2.1 u.2.2.1 u.2.2.2) below args s 0 0) (F0 m 23 ls []) := by
  obtain ⟨S0, hr, hlocks, hK, hZ, hA⟩ := id X
  obtain ⟨hx, hb, hml, hown, hts⟩ := id S0
  intro n
  induction n with
  | zero =>
    intro H locs ls y1 y2 v_t v_w v_z v_pr I hl h
    unfold PX8_forged_L23 at h
    exact h.elim
  | succ n ih =>
    intro H locs ls y1 y2 v_t v_w v_z v_pr I hl h
    unfold PX8_forged_L23 at h
    refine lv_iload_n hx hb (kn_dec tX8_forged 13 rfl) rfl (lv_at hl 2 rfl) ?_
    refine lv_aload_n hx hb (kn_dec tX8_forged 14 rfl) rfl (lv_at hl 0 rfl) ?_
    refine kw_getl hx hb hts inX8 hown hK I 0 rfl rfl 6 (by decide) rfl (hts _ q2_105) (kn_dec tX8_forged 15 rfl) e_t_6 ?_
    refine kw_geti hx hb hts inX5 hown hK I 1 rfl rfl 7 (by decide) rfl (hts _ q2_40) (kn_dec tX8_forged 16 rfl) ?_
    refine lv_icmp_ge (tgt := 95) hx hb (kn_dec tX8_forged 17 rfl) (by decide) (fun c1 => ?_) (fun c1 => ?_)
    · have h := h.1 c1
      refine lv_iload_n hx hb (kn_dec tX8_forged 50 rfl) rfl (lv_at hl 1 rfl) ?_
      exact kw_iret hx hb hr hlocks I (v_t, v_w, v_z, v_pr) rfl h (kn_dec tX8_forged 51 rfl)
    · have h := h.2 c1
      refine lv_iconst (v := (0)) hx hb (kn_dec tX8_forged 18 rfl) (by decide) ?_
      refine lv_istore_n (lv' := [(3, .int _), (0, .ref (ad_t 0)), (1, .int _), (2, .int _)]) hx hb (kn_dec tX8_forged 19 rfl) rfl hl (by decide) rfl (fun ls hl => ?_)
      refine lv_iconst (v := (0)) hx hb (kn_dec tX8_forged 20 rfl) (by decide) ?_
      refine lv_istore (lv' := [(4, .int _), (3, .int _), (0, .ref (ad_t 0)), (1, .int _), (2, .int _)]) hx hb (kn_dec tX8_forged 21 rfl) hl (by decide) rfl (fun ls hl => ?_)
      obtain ⟨n2, h⟩ := h
      exact wX8_forged_L39 X e_t_6 e_c_0 e_t_8 e_t_9 g_t_10 p_t_4 ih n2 _ _ _ _ _ _ _ _ _ _ _ (Or.inl rfl) I (lv_sub hl [2, 3, 4, 1, 0] rfl) h
def PX8_forged  (v_t : OV) (v_c : OV) (v_h : OV) (v_w : OV) (v_z : OV) (v_pr : (Nat → OV)) (gn_pr : Nat) (post : Int32 → OV → OV → OV → (Nat → OV) → Prop) : Prop := ((¬ (v_h.1 0) = ((0 : Int32)) → (PX8_fillWritten v_t v_c v_h v_w v_z v_pr gn_pr (fun v_t2 v_w3 v_z4 v_pr5 => (∃ n7 : Nat, PX8_forged_L23 v_c v_h gn_pr post n7 ((0 : Int32)) ((0 : Int32)) v_t2 v_w3 v_z4 v_pr5)))) ∧ ((v_h.1 0) = ((0 : Int32)) → post ((-1 : Int32)) v_t v_w v_z v_pr))
set_option maxRecDepth 100000 in
set_option maxHeartbeats 1000000 in
theorem ctX8_forged {l : Launch} {D : va_G} {tc : Nat → ClassId} {Z : (Nat → Nat) × (Nat → Nat)}  {ad_t : Nat → Nat} {ad_c : Nat → Nat} {ad_h : Nat → Nat} {ad_w : Nat → Nat} {ad_z : Nat → Nat} {ad_pr : Nat → Nat → Nat} {v_t : OV} {v_c : OV} {v_h : OV} {v_w : OV} {v_z : OV} {v_pr : (Nat → OV)} {gn_pr : Nat} (e_t_6 : ad_t (6 + 1) = ad_c 0) (e_c_0 : ad_c (0 + 1) = ad_h 0) (e_t_8 : ad_t (8 + 1) = ad_w 0) (e_t_9 : ad_t (9 + 1) = ad_z 0) (g_t_10 : ∀ i, i < 7 → kn_q ad_t 10 i = some (ad_t (100 + i + 1))) (p_t_4 : ∀ i, i < gn_pr → kn_q ad_t 4 i = some (ad_pr i 0))   {post : Int32 → OV → OV → OV → (Nat → OV) → Prop} (h : PX8_forged  v_t v_c v_h v_w v_z v_pr gn_pr post) : CTi l D tc Z yX8_forged (Cond.code yX8_forged cX8_forged 5 (some .int) :: kn_all) rmX8_forged 0 0 [.ref (ad_t 0)] (List.flatten [[(kTin, ad_t, v_t)], [(kScene, ad_c, v_c)], [(kHill, ad_h, v_h)], [(kWalk, ad_w, v_w)], [(kState, ad_z, v_z)], kn_pool kRule gn_pr ad_pr v_pr]) (fun (u : OV × OV × OV × (Nat → OV)) => (List.flatten [[(kTin, ad_t, u.1)], [(kScene, ad_c, v_c)], [(kHill, ad_h, v_h)], [(kWalk, ad_w, u.2.1)], [(kState, ad_z, u.2.2.1)], kn_pool kRule gn_pr ad_pr u.2.2.2])) (fun (r : Int32) (u : OV × OV × OV × (Nat → OV)) => post r u.1 u.2.1 u.2.2.1 u.2.2.2) := by
  refine kn_ofi (cc := cX8_forged) (nL := 5) (ret := (some .int)) (lv := [(0, .ref (ad_t 0))]) (by decide) (Nat.le_of_ble_eq_true rfl) rfl (fun p e s m below meth c ls X I hl _ => ?_)
  obtain ⟨S0, hr, hlocks, hK, hZ, hA⟩ := id X
  obtain ⟨hx, hb, hml, hown, hts⟩ := id S0
  unfold PX8_forged at h
  refine lv_aload_n hx hb (kn_dec tX8_forged 0 rfl) rfl (lv_at hl 0 rfl) ?_
  refine kw_getl hx hb hts inX8 hown hK I 0 rfl rfl 6 (by decide) rfl (hts _ q2_105) (kn_dec tX8_forged 1 rfl) e_t_6 ?_
  refine kw_getl hx hb hts inX5 hown hK I 1 rfl rfl 0 (by decide) rfl (hts _ q2_28) (kn_dec tX8_forged 2 rfl) e_c_0 ?_
  refine kw_geti hx hb hts inX0 hown hK I 2 rfl rfl 0 (by decide) rfl (hts _ q1_119) (kn_dec tX8_forged 3 rfl) ?_
  refine lv_if_ne (tgt := 15) hx hb (kn_dec tX8_forged 4 rfl) (by decide) (fun c1 => ?_) (fun c1 => ?_)
  · have h := h.1 c1
    refine lv_aload_n hx hb (kn_dec tX8_forged 7 rfl) rfl (lv_at hl 0 rfl) ?_
    have I : kn_I D tc (kn_A _ s.heap.size) s.heap ((List.flatten [[(kTin, ad_t, _)], [(kScene, ad_c, _)], [(kHill, ad_h, _)], [(kWalk, ad_w, _)], [(kState, ad_z, _)], kn_pool kRule gn_pr ad_pr _]) ++ (List.flatten [])) _ _ := I.perm (kn_segA (segs := [[(kTin, ad_t, _)], [(kScene, ad_c, _)], [(kHill, ad_h, _)], [(kWalk, ad_w, _)], [(kState, ad_z, _)], kn_pool kRule gn_pr ad_pr _]) (sC := [[(kTin, ad_t, _)], [(kScene, ad_c, _)], [(kHill, ad_h, _)], [(kWalk, ad_w, _)], [(kState, ad_z, _)], kn_pool kRule gn_pr ad_pr _]) (sR := []) [0, 1, 2, 3, 4, 5] rfl rfl)
    refine kw_callv (wc := (List.flatten [[(kTin, ad_t, _)], [(kScene, ad_c, _)], [(kHill, ad_h, _)], [(kWalk, ad_w, _)], [(kState, ad_z, _)], kn_pool kRule gn_pr ad_pr _])) (wr := (List.flatten [])) I hA (kn_pl1 _ _) (kn_pl2 _ _) (kn_pl1_ok _ _) (kn_pl2_ok _ _) (kn_pl2_nd _ _) (kn_pl_dis _ _) (kn_runV (As := []) S0 hK hZ hA I ((ctX8_fillWritten e_t_6 e_c_0 e_t_8 e_t_9 g_t_10 p_t_4 h).met _) (kn_cwV 0 hts q4_134 q4_136 q0_25 q1_1 q4_137 rfl rfl (by decide +kernel) ⟨(Nat.le_of_ble_eq_true rfl), (Nat.le_of_ble_eq_true rfl)⟩) (kn_pl1 _ _) (kn_pl1_ok _ _) (kn_pl1_nd _ _) 0 rfl rfl rfl rfl hl.1 rfl (Nat.le_of_ble_eq_true rfl) (kn_dec tX8_forged 8 rfl) ⟨(Nat.le_of_ble_eq_true rfl), (Nat.le_of_ble_eq_true rfl)⟩) (fun u6 H locs h I => ?_)
    have I : kn_I D tc (kn_A _ s.heap.size) s.heap (List.flatten [[(kTin, ad_t, _)], [(kScene, ad_c, _)], [(kHill, ad_h, _)], [(kWalk, ad_w, _)], [(kState, ad_z, _)], kn_pool kRule gn_pr ad_pr _]) _ _ := I.perm (kn_segB (sC := []) (sR := [[(kTin, ad_t, _)], [(kScene, ad_c, _)], [(kHill, ad_h, _)], [(kWalk, ad_w, _)], [(kState, ad_z, _)], kn_pool kRule gn_pr ad_pr _]) (segs := [[(kTin, ad_t, _)], [(kScene, ad_c, _)], [(kHill, ad_h, _)], [(kWalk, ad_w, _)], [(kState, ad_z, _)], kn_pool kRule gn_pr ad_pr _]) [0, 1, 2, 3, 4, 5] rfl rfl)
    refine lv_iconst (v := (0)) hx hb (kn_dec tX8_forged 9 rfl) (by decide) ?_
    refine lv_istore_n (lv' := [(1, .int _), (0, .ref (ad_t 0))]) hx hb (kn_dec tX8_forged 10 rfl) rfl hl (by decide) rfl (fun ls hl => ?_)
    refine lv_iconst (v := (0)) hx hb (kn_dec tX8_forged 11 rfl) (by decide) ?_
    refine lv_istore_n (lv' := [(2, .int _), (1, .int _), (0, .ref (ad_t 0))]) hx hb (kn_dec tX8_forged 12 rfl) rfl hl (by decide) rfl (fun ls hl => ?_)
    obtain ⟨n7, h⟩ := h
    exact wX8_forged_L23 X e_t_6 e_c_0 e_t_8 e_t_9 g_t_10 p_t_4 n7 _ _ _ _ _ _ _ _ _  I (lv_sub hl [2, 1, 0] rfl) h
  · have h := h.2 c1
    refine lv_iconst (v := (-1)) hx hb (kn_dec tX8_forged 5 rfl) (by decide) ?_
    exact kw_iret hx hb hr hlocks I (v_t, v_w, v_z, v_pr) rfl h (kn_dec tX8_forged 6 rfl)

/-! X4_readFact -/
def PX4_readFact_g_b68 (R_X4_readTest : OV → OV → OV → OV → Int32 → (OV → OV → OV → Prop) → Prop) (R_X4_readFact : OV → OV → OV → OV → Int32 → (OV → OV → OV → Prop) → Prop) (v_t : OV)  (post : OV → OV → OV → Prop) (y1 : Int32) (y2 : Int32) (y3 : Int32) (v_q : OV) (v_r : OV) (v_u : OV) : Prop := ((y2 = ((0 : Int32)) → ((y3 = ((0 : Int32)) → (PX4_readSum v_q v_r v_u v_t (fun v_q3 v_r4 v_u5 => (PX4_readSign v_q3 v_r4 v_u5 v_t (fun r9 v_q7 v_r8 => (PX4_readSum v_q7 v_r8 v_u5 v_t (fun v_q11 v_r12 v_u13 => (PX3_put v_u13 r9 (fun v_u15 => post v_q11 v_r12 v_u15))))))))) ∧ (¬ y3 = ((0 : Int32)) → (PX2_takeWord v_r v_t 5 (fun r18 v_r17 => (R_X4_readFact v_q v_r17 v_u v_t (y1 + ((1 : Int32))) (fun v_q20 v_r21 v_u22 => (PX3_put v_u22 ((-27 : Int32)) (fun v_u24 => post v_q20 v_r21 v_u24))))))))) ∧ (¬ y2 = ((0 : Int32)) → (PX2_take v_r v_t ((91 : Int32)) (fun v_r26 => (R_X4_readTest v_q v_r26 v_u v_t (y1 + ((1 : Int32))) (fun v_q28 v_r29 v_u30 => (PX2_take v_r29 v_t ((93 : Int32)) (fun v_r32 => post v_q28 v_r32 v_u30))))))))
set_option maxRecDepth 100000 in
set_option maxHeartbeats 1000000 in
theorem wX4_readFact_g_b68 {R_X4_readTest : OV → OV → OV → OV → Int32 → (OV → OV → OV → Prop) → Prop} {R_X4_readFact : OV → OV → OV → OV → Int32 → (OV → OV → OV → Prop) → Prop} {v_t : OV}  {post : OV → OV → OV → Prop} {ad_q : Nat → Nat} {ad_r : Nat → Nat} {ad_u : Nat → Nat} {ad_t : Nat → Nat} (X : kn_X p s m args meth c cX4_readFact 5 none RX4 kn_all D tc Z (kn_A w0 s.heap.size)) (e_r_0 : ad_r (0 + 1) = ad_t (0 + 1)) (e_q_0 : ad_q (0 + 1) = ad_r 0) (e_q_1 : ad_q (1 + 1) = ad_u 0) {rmR : Room} (hR0 : rmR.cells = 0 ∧ rmR.slots = 0) (hR_X4_readTest : ∀ {ad_q : Nat → Nat} {ad_r : Nat → Nat} {ad_u : Nat → Nat} {ad_t : Nat → Nat} (e_r_0 : ad_r (0 + 1) = ad_t (0 + 1)) (e_q_0 : ad_q (0 + 1) = ad_r 0) (e_q_1 : ad_q (1 + 1) = ad_u 0) {v_q : OV} {v_r : OV} {v_u : OV} {v_t : OV} {a1 : Int32} {post : OV → OV → OV → Prop}, R_X4_readTest v_q v_r v_u v_t a1 post → CTv l D tc Z yX4_readTest (Cond.code yX4_readTest cX4_readTest 5 none :: kn_all) rmR 0 0 [.ref (ad_q 0), .int a1] [(kRuleReader, ad_q, v_q), (kReader, ad_r, v_r), (kRule, ad_u, v_u), (kTin, ad_t, v_t)] (fun (u : OV × OV × OV) => [(kRuleReader, ad_q, u.1), (kReader, ad_r, u.2.1), (kRule, ad_u, u.2.2), (kTin, ad_t, v_t)]) (fun (u : OV × OV × OV) => post u.1 u.2.1 u.2.2)) (hR_X4_readFact : ∀ {ad_q : Nat → Nat} {ad_r : Nat → Nat} {ad_u : Nat → Nat} {ad_t : Nat → Nat} (e_r_0 : ad_r (0 + 1) = ad_t (0 + 1)) (e_q_0 : ad_q (0 + 1) = ad_r 0) (e_q_1 : ad_q (1 + 1) = ad_u 0) {v_q : OV} {v_r : OV} {v_u : OV} {v_t : OV} {a1 : Int32} {post : OV → OV → OV → Prop}, R_X4_readFact v_q v_r v_u v_t a1 post → CTv l D tc Z yX4_readFact (Cond.code yX4_readFact cX4_readFact 5 none :: kn_all) rmR 0 0 [.ref (ad_q 0), .int a1] [(kRuleReader, ad_q, v_q), (kReader, ad_r, v_r), (kRule, ad_u, v_u), (kTin, ad_t, v_t)] (fun (u : OV × OV × OV) => [(kRuleReader, ad_q, u.1), (kReader, ad_r, u.2.1), (kRule, ad_u, u.2.2), (kTin, ad_t, v_t)]) (fun (u : OV × OV × OV) => post u.1 u.2.1 u.2.2))  : ∀ (H : Heap) (locs : List Loc) (ls : Array Slot) (y1 : Int32) (y2 : Int32) (y3 : Int32) (v_q : OV) (v_r : OV) (v_u : OV), (hz_y2 : y2 = 0 ∨ y2 = 1) → (hz_y3 : y3 = 0 ∨ y3 = 1) → kn_I D tc (kn_A w0 s.heap.size) s.heap [(kRuleReader, ad_q, v_q), (kReader, ad_r, v_r), (kRule, ad_u, v_u), (kTin, ad_t, v_t)] H locs → lv_has ls 5 [(0, .ref (ad_q 0)), (1, .int y1), (2, .int y2), (3, .int y3)] → PX4_readFact_g_b68 R_X4_readTest R_X4_readFact v_t post y1 y2 y3 v_q v_r v_u → W p l e (rmS rmR) s m args below meth c H locs 0 0 (kn_Qv D tc w0 (fun (u : OV × OV × OV) => [(kRuleReader, ad_q, u.1), (kReader, ad_r, u.2.1), (kRule, ad_u, u.2.2), (kTin, ad_t, v_t)]) (fun (u : OV × OV × OV) => post u.1 u.2.1 u.2.2) below args s 0 0) (F0 m 68 ls []) := by
  obtain ⟨S0, hr, hlocks, hK, hZ, hA⟩ := id X
  obtain ⟨hx, hb, hml, hown, hts⟩ := id S0
  intro H locs ls y1 y2 y3 v_q v_r v_u hz_y2 hz_y3 I hl h
  unfold PX4_readFact_g_b68 at h
  refine lv_iload_n hx hb (kn_dec tX4_readFact 33 rfl) rfl (lv_at hl 2 rfl) ?_
  refine lv_if_eq (tgt := 100) hx hb (kn_dec tX4_readFact 34 rfl) (by decide) (fun c1 => ?_) (fun c1 => ?_)
  · have h := h.1 c1
    refine lv_iload_n hx hb (kn_dec tX4_readFact 49 rfl) rfl (lv_at hl 3 rfl) ?_
    refine lv_if_eq (tgt := 133) hx hb (kn_dec tX4_readFact 50 rfl) (by decide) (fun c2 => ?_) (fun c2 => ?_)
    · have h := h.1 c2
      refine lv_aload_n hx hb (kn_dec tX4_readFact 66 rfl) rfl (lv_at hl 0 rfl) ?_
      have I : kn_I D tc (kn_A w0 s.heap.size) s.heap ([(kRuleReader, ad_q, _), (kReader, ad_r, _), (kRule, ad_u, _), (kTin, ad_t, _)] ++ (List.flatten [])) _ _ := I.perm (kn_segA (segs := [[(kRuleReader, ad_q, _)], [(kReader, ad_r, _)], [(kRule, ad_u, _)], [(kTin, ad_t, _)]]) (sC := [[(kRuleReader, ad_q, _)], [(kReader, ad_r, _)], [(kRule, ad_u, _)], [(kTin, ad_t, _)]]) (sR := []) [0, 1, 2, 3] rfl rfl)
      refine kw_callv (wc := [(kRuleReader, ad_q, _), (kReader, ad_r, _), (kRule, ad_u, _), (kTin, ad_t, _)]) (wr := (List.flatten [])) I hA (kn_pl1 _ _) (kn_pl2 _ _) (kn_pl1_ok _ _) (kn_pl2_ok _ _) (kn_pl2_nd _ _) (kn_pl_dis _ _) (kn_runV (As := []) S0 hK hZ hA I ((ctX4_readSum e_r_0 e_q_0 e_q_1 h).met _) (kn_cwV 0 hts q3_68 q3_70 q0_6 q1_4 q3_71 rfl rfl (by decide +kernel) ⟨(Nat.le_trans (m := 20) (Nat.le_of_ble_eq_true rfl) (Nat.le_add_left _ _)), (Nat.le_trans (m := 400) (Nat.le_of_ble_eq_true rfl) (Nat.le_add_left _ _))⟩) (kn_pl1 _ _) (kn_pl1_ok _ _) (kn_pl1_nd _ _) 0 rfl rfl rfl rfl hl.1 rfl (Nat.le_of_ble_eq_true rfl) (kn_dec tX4_readFact 67 rfl) ⟨(Nat.le_of_ble_eq_true rfl), (Nat.le_of_ble_eq_true rfl)⟩) (fun u6 H locs h I => ?_)
      have I : kn_I D tc (kn_A w0 s.heap.size) s.heap (List.flatten [[(kRuleReader, ad_q, _)], [(kReader, ad_r, _)], [(kRule, ad_u, _)], [(kTin, ad_t, _)]]) _ _ := I.perm (kn_segB (sC := []) (sR := [[(kRuleReader, ad_q, _)], [(kReader, ad_r, _)], [(kRule, ad_u, _)], [(kTin, ad_t, _)]]) (segs := [[(kRuleReader, ad_q, _)], [(kReader, ad_r, _)], [(kRule, ad_u, _)], [(kTin, ad_t, _)]]) [0, 1, 2, 3] rfl rfl)
      have I : kn_I D tc (kn_A w0 s.heap.size) s.heap [(kRuleReader, ad_q, _), (kReader, ad_r, _), (kRule, ad_u, _), (kTin, ad_t, _)] _ _ := I
      refine lv_aload_n hx hb (kn_dec tX4_readFact 68 rfl) rfl (lv_at hl 0 rfl) ?_
      have I : kn_I D tc (kn_A w0 s.heap.size) s.heap ([(kRuleReader, ad_q, _), (kReader, ad_r, _), (kRule, ad_u, _), (kTin, ad_t, _)] ++ (List.flatten [])) _ _ := I.perm (kn_segA (segs := [[(kRuleReader, ad_q, _)], [(kReader, ad_r, _)], [(kRule, ad_u, _)], [(kTin, ad_t, _)]]) (sC := [[(kRuleReader, ad_q, _)], [(kReader, ad_r, _)], [(kRule, ad_u, _)], [(kTin, ad_t, _)]]) (sR := []) [0, 1, 2, 3] rfl rfl)
      refine kw_calli (wc := [(kRuleReader, ad_q, _), (kReader, ad_r, _), (kRule, ad_u, _), (kTin, ad_t, _)]) (wr := (List.flatten [])) I hA (kn_pl1 _ _) (kn_pl2 _ _) (kn_pl1_ok _ _) (kn_pl2_ok _ _) (kn_pl2_nd _ _) (kn_pl_dis _ _) (kn_runV (As := []) S0 hK hZ hA I ((ctX4_readSign e_r_0 e_q_0 e_q_1 h).met _) (kn_cwV 0 hts q3_112 q3_114 q0_11 q1_4 q3_115 rfl rfl (by decide +kernel) ⟨(Nat.le_trans (m := 20) (Nat.le_of_ble_eq_true rfl) (Nat.le_add_left _ _)), (Nat.le_trans (m := 400) (Nat.le_of_ble_eq_true rfl) (Nat.le_add_left _ _))⟩) (kn_pl1 _ _) (kn_pl1_ok _ _) (kn_pl1_nd _ _) 0 rfl rfl rfl rfl hl.1 rfl (Nat.le_of_ble_eq_true rfl) (kn_dec tX4_readFact 69 rfl) ⟨(Nat.le_of_ble_eq_true rfl), (Nat.le_of_ble_eq_true rfl)⟩) (fun r9 u10 H locs h I => ?_)
      have I : kn_I D tc (kn_A w0 s.heap.size) s.heap (List.flatten [[(kRuleReader, ad_q, _)], [(kReader, ad_r, _)], [(kRule, ad_u, _)], [(kTin, ad_t, _)]]) _ _ := I.perm (kn_segB (sC := []) (sR := [[(kRuleReader, ad_q, _)], [(kReader, ad_r, _)], [(kRule, ad_u, _)], [(kTin, ad_t, _)]]) (segs := [[(kRuleReader, ad_q, _)], [(kReader, ad_r, _)], [(kRule, ad_u, _)], [(kTin, ad_t, _)]]) [0, 1, 2, 3] rfl rfl)
      have I : kn_I D tc (kn_A w0 s.heap.size) s.heap [(kRuleReader, ad_q, _), (kReader, ad_r, _), (kRule, ad_u, _), (kTin, ad_t, _)] _ _ := I
      refine lv_istore (lv' := [(4, .int _), (0, .ref (ad_q 0)), (1, .int _), (2, .int _), (3, .int _)]) hx hb (kn_dec tX4_readFact 70 rfl) hl (by decide) rfl (fun ls hl => ?_)
      refine lv_aload_n hx hb (kn_dec tX4_readFact 71 rfl) rfl (lv_at hl 1 rfl) ?_
      have I : kn_I D tc (kn_A w0 s.heap.size) s.heap ([(kRuleReader, ad_q, _), (kReader, ad_r, _), (kRule, ad_u, _), (kTin, ad_t, _)] ++ (List.flatten [])) _ _ := I.perm (kn_segA (segs := [[(kRuleReader, ad_q, _)], [(kReader, ad_r, _)], [(kRule, ad_u, _)], [(kTin, ad_t, _)]]) (sC := [[(kRuleReader, ad_q, _)], [(kReader, ad_r, _)], [(kRule, ad_u, _)], [(kTin, ad_t, _)]]) (sR := []) [0, 1, 2, 3] rfl rfl)
      refine kw_callv (wc := [(kRuleReader, ad_q, _), (kReader, ad_r, _), (kRule, ad_u, _), (kTin, ad_t, _)]) (wr := (List.flatten [])) I hA (kn_pl1 _ _) (kn_pl2 _ _) (kn_pl1_ok _ _) (kn_pl2_ok _ _) (kn_pl2_nd _ _) (kn_pl_dis _ _) (kn_runV (As := []) S0 hK hZ hA I ((ctX4_readSum e_r_0 e_q_0 e_q_1 h).met _) (kn_cwV 0 hts q3_68 q3_70 q0_6 q1_4 q3_71 rfl rfl (by decide +kernel) ⟨(Nat.le_trans (m := 20) (Nat.le_of_ble_eq_true rfl) (Nat.le_add_left _ _)), (Nat.le_trans (m := 400) (Nat.le_of_ble_eq_true rfl) (Nat.le_add_left _ _))⟩) (kn_pl1 _ _) (kn_pl1_ok _ _) (kn_pl1_nd _ _) 0 rfl rfl rfl rfl hl.1 rfl (Nat.le_of_ble_eq_true rfl) (kn_dec tX4_readFact 72 rfl) ⟨(Nat.le_of_ble_eq_true rfl), (Nat.le_of_ble_eq_true rfl)⟩) (fun u14 H locs h I => ?_)
      have I : kn_I D tc (kn_A w0 s.heap.size) s.heap (List.flatten [[(kRuleReader, ad_q, _)], [(kReader, ad_r, _)], [(kRule, ad_u, _)], [(kTin, ad_t, _)]]) _ _ := I.perm (kn_segB (sC := []) (sR := [[(kRuleReader, ad_q, _)], [(kReader, ad_r, _)], [(kRule, ad_u, _)], [(kTin, ad_t, _)]]) (segs := [[(kRuleReader, ad_q, _)], [(kReader, ad_r, _)], [(kRule, ad_u, _)], [(kTin, ad_t, _)]]) [0, 1, 2, 3] rfl rfl)
      have I : kn_I D tc (kn_A w0 s.heap.size) s.heap [(kRuleReader, ad_q, _), (kReader, ad_r, _), (kRule, ad_u, _), (kTin, ad_t, _)] _ _ := I
      refine lv_aload_n hx hb (kn_dec tX4_readFact 73 rfl) rfl (lv_at hl 1 rfl) ?_
      refine kw_getl hx hb hts inX4 hown hK I 0 rfl rfl 1 (by decide) rfl (hts _ q1_95) (kn_dec tX4_readFact 74 rfl) e_q_1 ?_
      refine lv_iload hx hb (kn_dec tX4_readFact 75 rfl) (lv_at hl 0 rfl) ?_
      have I : kn_I D tc (kn_A w0 s.heap.size) s.heap ([(kRule, ad_u, _)] ++ (List.flatten [[(kRuleReader, ad_q, _)], [(kReader, ad_r, _)], [(kTin, ad_t, _)]])) _ _ := I.perm (kn_segA (segs := [[(kRuleReader, ad_q, _)], [(kReader, ad_r, _)], [(kRule, ad_u, _)], [(kTin, ad_t, _)]]) (sC := [[(kRule, ad_u, _)]]) (sR := [[(kRuleReader, ad_q, _)], [(kReader, ad_r, _)], [(kTin, ad_t, _)]]) [2, 0, 1, 3] rfl rfl)
      refine kw_callv (wc := [(kRule, ad_u, _)]) (wr := (List.flatten [[(kRuleReader, ad_q, _)], [(kReader, ad_r, _)], [(kTin, ad_t, _)]])) I hA (kn_pl1 _ _) (kn_pl2 _ _) (kn_pl1_ok _ _) (kn_pl2_ok _ _) (kn_pl2_nd _ _) (kn_pl_dis _ _) (kn_runV (As := [.int _]) S0 hK hZ hA I ((ctX3_put h).met _) (kn_cwV 1 hts q3_81 q3_82 q3_83 q1_5 q3_84 rfl rfl (by decide +kernel) ⟨(Nat.le_trans (m := 20) (Nat.le_of_ble_eq_true rfl) (Nat.le_add_left _ _)), (Nat.le_trans (m := 400) (Nat.le_of_ble_eq_true rfl) (Nat.le_add_left _ _))⟩) (kn_pl1 _ _) (kn_pl1_ok _ _) (kn_pl1_nd _ _) 0 rfl rfl rfl rfl hl.1 rfl (Nat.le_of_ble_eq_true rfl) (kn_dec tX4_readFact 76 rfl) ⟨(Nat.le_of_ble_eq_true rfl), (Nat.le_of_ble_eq_true rfl)⟩) (fun u16 H locs h I => ?_)
      have I : kn_I D tc (kn_A w0 s.heap.size) s.heap (List.flatten [[(kRuleReader, ad_q, _)], [(kReader, ad_r, _)], [(kRule, ad_u, _)], [(kTin, ad_t, _)]]) _ _ := I.perm (kn_segB (sC := [[(kRuleReader, ad_q, _)], [(kReader, ad_r, _)], [(kTin, ad_t, _)]]) (sR := [[(kRule, ad_u, _)]]) (segs := [[(kRuleReader, ad_q, _)], [(kReader, ad_r, _)], [(kRule, ad_u, _)], [(kTin, ad_t, _)]]) [0, 1, 3, 2] rfl rfl)
      have I : kn_I D tc (kn_A w0 s.heap.size) s.heap [(kRuleReader, ad_q, _), (kReader, ad_r, _), (kRule, ad_u, _), (kTin, ad_t, _)] _ _ := I
      exact kw_vret hx hb hr hlocks I (u14.1, u14.2.1, u16) rfl h (kn_dec tX4_readFact 77 rfl)
    · have h := h.2 c2
      refine lv_aload_n hx hb (kn_dec tX4_readFact 51 rfl) rfl (lv_at hl 0 rfl) ?_
      refine kw_getl hx hb hts inX4 hown hK I 0 rfl rfl 0 (by decide) rfl (hts _ q1_94) (kn_dec tX4_readFact 52 rfl) e_q_0 ?_
      refine va_ldcS hx hb hown (hZ.1 5 _ rfl).1 (kn_dec tX4_readFact 53 rfl) ?_
      have I : kn_I D tc (kn_A w0 s.heap.size) s.heap ([(kReader, ad_r, _), (kTin, ad_t, _)] ++ (List.flatten [[(kRuleReader, ad_q, _)], [(kRule, ad_u, _)]])) _ _ := I.perm (kn_segA (segs := [[(kRuleReader, ad_q, _)], [(kReader, ad_r, _)], [(kRule, ad_u, _)], [(kTin, ad_t, _)]]) (sC := [[(kReader, ad_r, _)], [(kTin, ad_t, _)]]) (sR := [[(kRuleReader, ad_q, _)], [(kRule, ad_u, _)]]) [1, 3, 0, 2] rfl rfl)
      refine kw_calli (wc := [(kReader, ad_r, _), (kTin, ad_t, _)]) (wr := (List.flatten [[(kRuleReader, ad_q, _)], [(kRule, ad_u, _)]])) I hA (kn_pl1 _ _) (kn_pl2 _ _) (kn_pl1_ok _ _) (kn_pl2_ok _ _) (kn_pl2_nd _ _) (kn_pl_dis _ _) (kn_runV (As := [.ref (Z.1 5)]) S0 hK hZ hA I ((ctX2_takeWord e_r_0 h).met _) (kn_cwV 1 hts q3_63 q3_64 q3_65 q1_3 q3_66 rfl rfl (by decide +kernel) ⟨(Nat.le_trans (m := 20) (Nat.le_of_ble_eq_true rfl) (Nat.le_add_left _ _)), (Nat.le_trans (m := 400) (Nat.le_of_ble_eq_true rfl) (Nat.le_add_left _ _))⟩) (kn_pl1 _ _) (kn_pl1_ok _ _) (kn_pl1_nd _ _) 0 rfl rfl rfl rfl hl.1 rfl (Nat.le_of_ble_eq_true rfl) (kn_dec tX4_readFact 54 rfl) ⟨(Nat.le_of_ble_eq_true rfl), (Nat.le_of_ble_eq_true rfl)⟩) (fun r18 u19 H locs h I => ?_)
      obtain ⟨hz_r18, h⟩ := h
      have I : kn_I D tc (kn_A w0 s.heap.size) s.heap (List.flatten [[(kRuleReader, ad_q, _)], [(kReader, ad_r, _)], [(kRule, ad_u, _)], [(kTin, ad_t, _)]]) _ _ := I.perm (kn_segB (sC := [[(kRuleReader, ad_q, _)], [(kRule, ad_u, _)]]) (sR := [[(kReader, ad_r, _)], [(kTin, ad_t, _)]]) (segs := [[(kRuleReader, ad_q, _)], [(kReader, ad_r, _)], [(kRule, ad_u, _)], [(kTin, ad_t, _)]]) [0, 2, 1, 3] rfl rfl)
      have I : kn_I D tc (kn_A w0 s.heap.size) s.heap [(kRuleReader, ad_q, _), (kReader, ad_r, _), (kRule, ad_u, _), (kTin, ad_t, _)] _ _ := I
      refine lv_pop hx hb (kn_dec tX4_readFact 55 rfl) rfl ?_
      refine lv_aload_n hx hb (kn_dec tX4_readFact 56 rfl) rfl (lv_at hl 0 rfl) ?_
      refine lv_iload_n hx hb (kn_dec tX4_readFact 57 rfl) rfl (lv_at hl 1 rfl) ?_
      refine lv_iconst (v := (1)) hx hb (kn_dec tX4_readFact 58 rfl) (by decide) ?_
      refine lv_iadd hx hb (kn_dec tX4_readFact 59 rfl) ?_
      have I : kn_I D tc (kn_A w0 s.heap.size) s.heap ([(kRuleReader, ad_q, _), (kReader, ad_r, _), (kRule, ad_u, _), (kTin, ad_t, _)] ++ (List.flatten [])) _ _ := I.perm (kn_segA (segs := [[(kRuleReader, ad_q, _)], [(kReader, ad_r, _)], [(kRule, ad_u, _)], [(kTin, ad_t, _)]]) (sC := [[(kRuleReader, ad_q, _)], [(kReader, ad_r, _)], [(kRule, ad_u, _)], [(kTin, ad_t, _)]]) (sR := []) [0, 1, 2, 3] rfl rfl)
      refine kw_callv (wc := [(kRuleReader, ad_q, _), (kReader, ad_r, _), (kRule, ad_u, _), (kTin, ad_t, _)]) (wr := (List.flatten [])) I hA (kn_pl1 _ _) (kn_pl2 _ _) (kn_pl1_ok _ _) (kn_pl2_ok _ _) (kn_pl2_nd _ _) (kn_pl_dis _ _) (kn_runV (As := [.int _]) S0 hK hZ hA I ((hR_X4_readFact e_r_0 e_q_0 e_q_1 h).met _) (kn_cwV 1 hts q3_106 q3_108 q0_10 q1_4 q3_109 hR0.1 hR0.2 (by decide +kernel) ⟨(Nat.add_le_add_left (Nat.le_of_ble_eq_true rfl) _), (Nat.le_trans (Nat.le_of_eq (Nat.add_comm _ _)) (Nat.add_le_add_left (Nat.le_of_ble_eq_true rfl) _))⟩) (kn_pl1 _ _) (kn_pl1_ok _ _) (kn_pl1_nd _ _) 0 rfl rfl rfl rfl hl.1 rfl (Nat.le_of_ble_eq_true rfl) (kn_dec tX4_readFact 60 rfl) ⟨(Nat.le_of_ble_eq_true rfl), (Nat.le_of_ble_eq_true rfl)⟩) (fun u23 H locs h I => ?_)
      have I : kn_I D tc (kn_A w0 s.heap.size) s.heap (List.flatten [[(kRuleReader, ad_q, _)], [(kReader, ad_r, _)], [(kRule, ad_u, _)], [(kTin, ad_t, _)]]) _ _ := I.perm (kn_segB (sC := []) (sR := [[(kRuleReader, ad_q, _)], [(kReader, ad_r, _)], [(kRule, ad_u, _)], [(kTin, ad_t, _)]]) (segs := [[(kRuleReader, ad_q, _)], [(kReader, ad_r, _)], [(kRule, ad_u, _)], [(kTin, ad_t, _)]]) [0, 1, 2, 3] rfl rfl)
      have I : kn_I D tc (kn_A w0 s.heap.size) s.heap [(kRuleReader, ad_q, _), (kReader, ad_r, _), (kRule, ad_u, _), (kTin, ad_t, _)] _ _ := I
      refine lv_aload_n hx hb (kn_dec tX4_readFact 61 rfl) rfl (lv_at hl 0 rfl) ?_
      refine kw_getl hx hb hts inX4 hown hK I 0 rfl rfl 1 (by decide) rfl (hts _ q1_95) (kn_dec tX4_readFact 62 rfl) e_q_1 ?_
      refine lv_bipush (v := (-27)) hx hb (kn_dec tX4_readFact 63 rfl) (by decide) ?_
      have I : kn_I D tc (kn_A w0 s.heap.size) s.heap ([(kRule, ad_u, _)] ++ (List.flatten [[(kRuleReader, ad_q, _)], [(kReader, ad_r, _)], [(kTin, ad_t, _)]])) _ _ := I.perm (kn_segA (segs := [[(kRuleReader, ad_q, _)], [(kReader, ad_r, _)], [(kRule, ad_u, _)], [(kTin, ad_t, _)]]) (sC := [[(kRule, ad_u, _)]]) (sR := [[(kRuleReader, ad_q, _)], [(kReader, ad_r, _)], [(kTin, ad_t, _)]]) [2, 0, 1, 3] rfl rfl)
      refine kw_callv (wc := [(kRule, ad_u, _)]) (wr := (List.flatten [[(kRuleReader, ad_q, _)], [(kReader, ad_r, _)], [(kTin, ad_t, _)]])) I hA (kn_pl1 _ _) (kn_pl2 _ _) (kn_pl1_ok _ _) (kn_pl2_ok _ _) (kn_pl2_nd _ _) (kn_pl_dis _ _) (kn_runV (As := [.int _]) S0 hK hZ hA I ((ctX3_put h).met _) (kn_cwV 1 hts q3_81 q3_82 q3_83 q1_5 q3_84 rfl rfl (by decide +kernel) ⟨(Nat.le_trans (m := 20) (Nat.le_of_ble_eq_true rfl) (Nat.le_add_left _ _)), (Nat.le_trans (m := 400) (Nat.le_of_ble_eq_true rfl) (Nat.le_add_left _ _))⟩) (kn_pl1 _ _) (kn_pl1_ok _ _) (kn_pl1_nd _ _) 0 rfl rfl rfl rfl hl.1 rfl (Nat.le_of_ble_eq_true rfl) (kn_dec tX4_readFact 64 rfl) ⟨(Nat.le_of_ble_eq_true rfl), (Nat.le_of_ble_eq_true rfl)⟩) (fun u25 H locs h I => ?_)
      have I : kn_I D tc (kn_A w0 s.heap.size) s.heap (List.flatten [[(kRuleReader, ad_q, _)], [(kReader, ad_r, _)], [(kRule, ad_u, _)], [(kTin, ad_t, _)]]) _ _ := I.perm (kn_segB (sC := [[(kRuleReader, ad_q, _)], [(kReader, ad_r, _)], [(kTin, ad_t, _)]]) (sR := [[(kRule, ad_u, _)]]) (segs := [[(kRuleReader, ad_q, _)], [(kReader, ad_r, _)], [(kRule, ad_u, _)], [(kTin, ad_t, _)]]) [0, 1, 3, 2] rfl rfl)
      have I : kn_I D tc (kn_A w0 s.heap.size) s.heap [(kRuleReader, ad_q, _), (kReader, ad_r, _), (kRule, ad_u, _), (kTin, ad_t, _)] _ _ := I
      refine lv_goto (tgt := 156) hx hb (kn_dec tX4_readFact 65 rfl) (by decide) ?_
      exact kw_vret hx hb hr hlocks I (u23.1, u23.2.1, u25) rfl h (kn_dec tX4_readFact 77 rfl)
  · have h := h.2 c1
    refine lv_aload_n hx hb (kn_dec tX4_readFact 35 rfl) rfl (lv_at hl 0 rfl) ?_
    refine kw_getl hx hb hts inX4 hown hK I 0 rfl rfl 0 (by decide) rfl (hts _ q1_94) (kn_dec tX4_readFact 36 rfl) e_q_0 ?_
    refine lv_bipush (v := (91)) hx hb (kn_dec tX4_readFact 37 rfl) (by decide) ?_
    have I : kn_I D tc (kn_A w0 s.heap.size) s.heap ([(kReader, ad_r, _), (kTin, ad_t, _)] ++ (List.flatten [[(kRuleReader, ad_q, _)], [(kRule, ad_u, _)]])) _ _ := I.perm (kn_segA (segs := [[(kRuleReader, ad_q, _)], [(kReader, ad_r, _)], [(kRule, ad_u, _)], [(kTin, ad_t, _)]]) (sC := [[(kReader, ad_r, _)], [(kTin, ad_t, _)]]) (sR := [[(kRuleReader, ad_q, _)], [(kRule, ad_u, _)]]) [1, 3, 0, 2] rfl rfl)
    refine kw_callv (wc := [(kReader, ad_r, _), (kTin, ad_t, _)]) (wr := (List.flatten [[(kRuleReader, ad_q, _)], [(kRule, ad_u, _)]])) I hA (kn_pl1 _ _) (kn_pl2 _ _) (kn_pl1_ok _ _) (kn_pl2_ok _ _) (kn_pl2_nd _ _) (kn_pl_dis _ _) (kn_runV (As := [.int _]) S0 hK hZ hA I ((ctX2_take e_r_0 h).met _) (kn_cwV 1 hts q3_111 q3_27 q3_28 q1_3 q3_29 rfl rfl (by decide +kernel) ⟨(Nat.le_trans (m := 20) (Nat.le_of_ble_eq_true rfl) (Nat.le_add_left _ _)), (Nat.le_trans (m := 400) (Nat.le_of_ble_eq_true rfl) (Nat.le_add_left _ _))⟩) (kn_pl1 _ _) (kn_pl1_ok _ _) (kn_pl1_nd _ _) 0 rfl rfl rfl rfl hl.1 rfl (Nat.le_of_ble_eq_true rfl) (kn_dec tX4_readFact 38 rfl) ⟨(Nat.le_of_ble_eq_true rfl), (Nat.le_of_ble_eq_true rfl)⟩) (fun u27 H locs h I => ?_)
    have I : kn_I D tc (kn_A w0 s.heap.size) s.heap (List.flatten [[(kRuleReader, ad_q, _)], [(kReader, ad_r, _)], [(kRule, ad_u, _)], [(kTin, ad_t, _)]]) _ _ := I.perm (kn_segB (sC := [[(kRuleReader, ad_q, _)], [(kRule, ad_u, _)]]) (sR := [[(kReader, ad_r, _)], [(kTin, ad_t, _)]]) (segs := [[(kRuleReader, ad_q, _)], [(kReader, ad_r, _)], [(kRule, ad_u, _)], [(kTin, ad_t, _)]]) [0, 2, 1, 3] rfl rfl)
    have I : kn_I D tc (kn_A w0 s.heap.size) s.heap [(kRuleReader, ad_q, _), (kReader, ad_r, _), (kRule, ad_u, _), (kTin, ad_t, _)] _ _ := I
    refine lv_aload_n hx hb (kn_dec tX4_readFact 39 rfl) rfl (lv_at hl 0 rfl) ?_
    refine lv_iload_n hx hb (kn_dec tX4_readFact 40 rfl) rfl (lv_at hl 1 rfl) ?_
    refine lv_iconst (v := (1)) hx hb (kn_dec tX4_readFact 41 rfl) (by decide) ?_
    refine lv_iadd hx hb (kn_dec tX4_readFact 42 rfl) ?_
    have I : kn_I D tc (kn_A w0 s.heap.size) s.heap ([(kRuleReader, ad_q, _), (kReader, ad_r, _), (kRule, ad_u, _), (kTin, ad_t, _)] ++ (List.flatten [])) _ _ := I.perm (kn_segA (segs := [[(kRuleReader, ad_q, _)], [(kReader, ad_r, _)], [(kRule, ad_u, _)], [(kTin, ad_t, _)]]) (sC := [[(kRuleReader, ad_q, _)], [(kReader, ad_r, _)], [(kRule, ad_u, _)], [(kTin, ad_t, _)]]) (sR := []) [0, 1, 2, 3] rfl rfl)
    refine kw_callv (wc := [(kRuleReader, ad_q, _), (kReader, ad_r, _), (kRule, ad_u, _), (kTin, ad_t, _)]) (wr := (List.flatten [])) I hA (kn_pl1 _ _) (kn_pl2 _ _) (kn_pl1_ok _ _) (kn_pl2_ok _ _) (kn_pl2_nd _ _) (kn_pl_dis _ _) (kn_runV (As := [.int _]) S0 hK hZ hA I ((hR_X4_readTest e_r_0 e_q_0 e_q_1 h).met _) (kn_cwV 1 hts q3_102 q3_104 q0_9 q1_4 q3_105 hR0.1 hR0.2 (by decide +kernel) ⟨(Nat.add_le_add_left (Nat.le_of_ble_eq_true rfl) _), (Nat.le_trans (Nat.le_of_eq (Nat.add_comm _ _)) (Nat.add_le_add_left (Nat.le_of_ble_eq_true rfl) _))⟩) (kn_pl1 _ _) (kn_pl1_ok _ _) (kn_pl1_nd _ _) 0 rfl rfl rfl rfl hl.1 rfl (Nat.le_of_ble_eq_true rfl) (kn_dec tX4_readFact 43 rfl) ⟨(Nat.le_of_ble_eq_true rfl), (Nat.le_of_ble_eq_true rfl)⟩) (fun u31 H locs h I => ?_)
    have I : kn_I D tc (kn_A w0 s.heap.size) s.heap (List.flatten [[(kRuleReader, ad_q, _)], [(kReader, ad_r, _)], [(kRule, ad_u, _)], [(kTin, ad_t, _)]]) _ _ := I.perm (kn_segB (sC := []) (sR := [[(kRuleReader, ad_q, _)], [(kReader, ad_r, _)], [(kRule, ad_u, _)], [(kTin, ad_t, _)]]) (segs := [[(kRuleReader, ad_q, _)], [(kReader, ad_r, _)], [(kRule, ad_u, _)], [(kTin, ad_t, _)]]) [0, 1, 2, 3] rfl rfl)
    have I : kn_I D tc (kn_A w0 s.heap.size) s.heap [(kRuleReader, ad_q, _), (kReader, ad_r, _), (kRule, ad_u, _), (kTin, ad_t, _)] _ _ := I
    refine lv_aload_n hx hb (kn_dec tX4_readFact 44 rfl) rfl (lv_at hl 0 rfl) ?_
    refine kw_getl hx hb hts inX4 hown hK I 0 rfl rfl 0 (by decide) rfl (hts _ q1_94) (kn_dec tX4_readFact 45 rfl) e_q_0 ?_
    refine lv_bipush (v := (93)) hx hb (kn_dec tX4_readFact 46 rfl) (by decide) ?_
    have I : kn_I D tc (kn_A w0 s.heap.size) s.heap ([(kReader, ad_r, _), (kTin, ad_t, _)] ++ (List.flatten [[(kRuleReader, ad_q, _)], [(kRule, ad_u, _)]])) _ _ := I.perm (kn_segA (segs := [[(kRuleReader, ad_q, _)], [(kReader, ad_r, _)], [(kRule, ad_u, _)], [(kTin, ad_t, _)]]) (sC := [[(kReader, ad_r, _)], [(kTin, ad_t, _)]]) (sR := [[(kRuleReader, ad_q, _)], [(kRule, ad_u, _)]]) [1, 3, 0, 2] rfl rfl)
    refine kw_callv (wc := [(kReader, ad_r, _), (kTin, ad_t, _)]) (wr := (List.flatten [[(kRuleReader, ad_q, _)], [(kRule, ad_u, _)]])) I hA (kn_pl1 _ _) (kn_pl2 _ _) (kn_pl1_ok _ _) (kn_pl2_ok _ _) (kn_pl2_nd _ _) (kn_pl_dis _ _) (kn_runV (As := [.int _]) S0 hK hZ hA I ((ctX2_take e_r_0 h).met _) (kn_cwV 1 hts q3_111 q3_27 q3_28 q1_3 q3_29 rfl rfl (by decide +kernel) ⟨(Nat.le_trans (m := 20) (Nat.le_of_ble_eq_true rfl) (Nat.le_add_left _ _)), (Nat.le_trans (m := 400) (Nat.le_of_ble_eq_true rfl) (Nat.le_add_left _ _))⟩) (kn_pl1 _ _) (kn_pl1_ok _ _) (kn_pl1_nd _ _) 0 rfl rfl rfl rfl hl.1 rfl (Nat.le_of_ble_eq_true rfl) (kn_dec tX4_readFact 47 rfl) ⟨(Nat.le_of_ble_eq_true rfl), (Nat.le_of_ble_eq_true rfl)⟩) (fun u33 H locs h I => ?_)
    have I : kn_I D tc (kn_A w0 s.heap.size) s.heap (List.flatten [[(kRuleReader, ad_q, _)], [(kReader, ad_r, _)], [(kRule, ad_u, _)], [(kTin, ad_t, _)]]) _ _ := I.perm (kn_segB (sC := [[(kRuleReader, ad_q, _)], [(kRule, ad_u, _)]]) (sR := [[(kReader, ad_r, _)], [(kTin, ad_t, _)]]) (segs := [[(kRuleReader, ad_q, _)], [(kReader, ad_r, _)], [(kRule, ad_u, _)], [(kTin, ad_t, _)]]) [0, 2, 1, 3] rfl rfl)
    have I : kn_I D tc (kn_A w0 s.heap.size) s.heap [(kRuleReader, ad_q, _), (kReader, ad_r, _), (kRule, ad_u, _), (kTin, ad_t, _)] _ _ := I
    refine lv_goto (tgt := 156) hx hb (kn_dec tX4_readFact 48 rfl) (by decide) ?_
    exact kw_vret hx hb hr hlocks I (u31.1, u33, u31.2.2) rfl h (kn_dec tX4_readFact 77 rfl)
def PX4_readFact_g_b44 (R_X4_readTest : OV → OV → OV → OV → Int32 → (OV → OV → OV → Prop) → Prop) (R_X4_readFact : OV → OV → OV → OV → Int32 → (OV → OV → OV → Prop) → Prop) (v_t : OV)  (post : OV → OV → OV → Prop) (y1 : Int32) (y2 : Int32) (y3 : Int32) (v_q : OV) (v_r : OV) (v_u : OV) : Prop := ((y1 < ((10 : Int32)) → PX4_readFact_g_b68 R_X4_readTest R_X4_readFact v_t post y1 y2 y3 v_q v_r v_u) ∧ (¬ y1 < ((10 : Int32)) → (PX2_failAt v_r v_t (v_r.1 2) ((2 : Int32)) (fun v_r2 => post v_q v_r2 v_u))))
set_option maxRecDepth 100000 in
set_option maxHeartbeats 1000000 in
theorem wX4_readFact_g_b44 {R_X4_readTest : OV → OV → OV → OV → Int32 → (OV → OV → OV → Prop) → Prop} {R_X4_readFact : OV → OV → OV → OV → Int32 → (OV → OV → OV → Prop) → Prop} {v_t : OV}  {post : OV → OV → OV → Prop} {ad_q : Nat → Nat} {ad_r : Nat → Nat} {ad_u : Nat → Nat} {ad_t : Nat → Nat} (X : kn_X p s m args meth c cX4_readFact 5 none RX4 kn_all D tc Z (kn_A w0 s.heap.size)) (e_r_0 : ad_r (0 + 1) = ad_t (0 + 1)) (e_q_0 : ad_q (0 + 1) = ad_r 0) (e_q_1 : ad_q (1 + 1) = ad_u 0) {rmR : Room} (hR0 : rmR.cells = 0 ∧ rmR.slots = 0) (hR_X4_readTest : ∀ {ad_q : Nat → Nat} {ad_r : Nat → Nat} {ad_u : Nat → Nat} {ad_t : Nat → Nat} (e_r_0 : ad_r (0 + 1) = ad_t (0 + 1)) (e_q_0 : ad_q (0 + 1) = ad_r 0) (e_q_1 : ad_q (1 + 1) = ad_u 0) {v_q : OV} {v_r : OV} {v_u : OV} {v_t : OV} {a1 : Int32} {post : OV → OV → OV → Prop}, R_X4_readTest v_q v_r v_u v_t a1 post → CTv l D tc Z yX4_readTest (Cond.code yX4_readTest cX4_readTest 5 none :: kn_all) rmR 0 0 [.ref (ad_q 0), .int a1] [(kRuleReader, ad_q, v_q), (kReader, ad_r, v_r), (kRule, ad_u, v_u), (kTin, ad_t, v_t)] (fun (u : OV × OV × OV) => [(kRuleReader, ad_q, u.1), (kReader, ad_r, u.2.1), (kRule, ad_u, u.2.2), (kTin, ad_t, v_t)]) (fun (u : OV × OV × OV) => post u.1 u.2.1 u.2.2)) (hR_X4_readFact : ∀ {ad_q : Nat → Nat} {ad_r : Nat → Nat} {ad_u : Nat → Nat} {ad_t : Nat → Nat} (e_r_0 : ad_r (0 + 1) = ad_t (0 + 1)) (e_q_0 : ad_q (0 + 1) = ad_r 0) (e_q_1 : ad_q (1 + 1) = ad_u 0) {v_q : OV} {v_r : OV} {v_u : OV} {v_t : OV} {a1 : Int32} {post : OV → OV → OV → Prop}, R_X4_readFact v_q v_r v_u v_t a1 post → CTv l D tc Z yX4_readFact (Cond.code yX4_readFact cX4_readFact 5 none :: kn_all) rmR 0 0 [.ref (ad_q 0), .int a1] [(kRuleReader, ad_q, v_q), (kReader, ad_r, v_r), (kRule, ad_u, v_u), (kTin, ad_t, v_t)] (fun (u : OV × OV × OV) => [(kRuleReader, ad_q, u.1), (kReader, ad_r, u.2.1), (kRule, ad_u, u.2.2), (kTin, ad_t, v_t)]) (fun (u : OV × OV × OV) => post u.1 u.2.1 u.2.2))  : ∀ (H : Heap) (locs : List Loc) (ls : Array Slot) (y1 : Int32) (y2 : Int32) (y3 : Int32) (v_q : OV) (v_r : OV) (v_u : OV), (hz_y2 : y2 = 0 ∨ y2 = 1) → (hz_y3 : y3 = 0 ∨ y3 = 1) → kn_I D tc (kn_A w0 s.heap.size) s.heap [(kRuleReader, ad_q, v_q), (kReader, ad_r, v_r), (kRule, ad_u, v_u), (kTin, ad_t, v_t)] H locs → lv_has ls 5 [(0, .ref (ad_q 0)), (1, .int y1), (2, .int y2), (3, .int y3)] → PX4_readFact_g_b44 R_X4_readTest R_X4_readFact v_t post y1 y2 y3 v_q v_r v_u → W p l e (rmS rmR) s m args below meth c H locs 0 0 (kn_Qv D tc w0 (fun (u : OV × OV × OV) => [(kRuleReader, ad_q, u.1), (kReader, ad_r, u.2.1), (kRule, ad_u, u.2.2), (kTin, ad_t, v_t)]) (fun (u : OV × OV × OV) => post u.1 u.2.1 u.2.2) below args s 0 0) (F0 m 44 ls []) := by
  obtain ⟨S0, hr, hlocks, hK, hZ, hA⟩ := id X
  obtain ⟨hx, hb, hml, hown, hts⟩ := id S0
  intro H locs ls y1 y2 y3 v_q v_r v_u hz_y2 hz_y3 I hl h
  unfold PX4_readFact_g_b44 at h
  refine lv_iload_n hx hb (kn_dec tX4_readFact 22 rfl) rfl (lv_at hl 1 rfl) ?_
  refine lv_bipush (v := (10)) hx hb (kn_dec tX4_readFact 23 rfl) (by decide) ?_
  refine lv_icmp_lt (tgt := 68) hx hb (kn_dec tX4_readFact 24 rfl) (by decide) (fun c1 => ?_) (fun c1 => ?_)
  · have h := h.1 c1
    exact wX4_readFact_g_b68 X e_r_0 e_q_0 e_q_1 hR0 hR_X4_readTest hR_X4_readFact _ _ _ _ _ _ _ _ _ hz_y2 hz_y3 I (lv_sub hl [0, 1, 2, 3] rfl) h
  · have h := h.2 c1
    refine lv_aload_n hx hb (kn_dec tX4_readFact 25 rfl) rfl (lv_at hl 0 rfl) ?_
    refine kw_getl hx hb hts inX4 hown hK I 0 rfl rfl 0 (by decide) rfl (hts _ q1_94) (kn_dec tX4_readFact 26 rfl) e_q_0 ?_
    refine lv_aload_n hx hb (kn_dec tX4_readFact 27 rfl) rfl (lv_at hl 0 rfl) ?_
    refine kw_getl hx hb hts inX4 hown hK I 0 rfl rfl 0 (by decide) rfl (hts _ q1_94) (kn_dec tX4_readFact 28 rfl) e_q_0 ?_
    refine kw_geti hx hb hts inX2 hown hK I 1 rfl rfl 2 (by decide) rfl (hts _ q1_42) (kn_dec tX4_readFact 29 rfl) ?_
    refine lv_iconst (v := (2)) hx hb (kn_dec tX4_readFact 30 rfl) (by decide) ?_
    have I : kn_I D tc (kn_A w0 s.heap.size) s.heap ([(kReader, ad_r, _), (kTin, ad_t, _)] ++ (List.flatten [[(kRuleReader, ad_q, _)], [(kRule, ad_u, _)]])) _ _ := I.perm (kn_segA (segs := [[(kRuleReader, ad_q, _)], [(kReader, ad_r, _)], [(kRule, ad_u, _)], [(kTin, ad_t, _)]]) (sC := [[(kReader, ad_r, _)], [(kTin, ad_t, _)]]) (sR := [[(kRuleReader, ad_q, _)], [(kRule, ad_u, _)]]) [1, 3, 0, 2] rfl rfl)
    refine kw_callv (wc := [(kReader, ad_r, _), (kTin, ad_t, _)]) (wr := (List.flatten [[(kRuleReader, ad_q, _)], [(kRule, ad_u, _)]])) I hA (kn_pl1 _ _) (kn_pl2 _ _) (kn_pl1_ok _ _) (kn_pl2_ok _ _) (kn_pl2_nd _ _) (kn_pl_dis _ _) (kn_runV (As := [.int _, .int _]) S0 hK hZ hA I ((ctX2_failAt e_r_0 h).met _) (kn_cwV 2 hts q3_62 q2_235 q2_236 q1_3 q2_237 rfl rfl (by decide +kernel) ⟨(Nat.le_trans (m := 20) (Nat.le_of_ble_eq_true rfl) (Nat.le_add_left _ _)), (Nat.le_trans (m := 400) (Nat.le_of_ble_eq_true rfl) (Nat.le_add_left _ _))⟩) (kn_pl1 _ _) (kn_pl1_ok _ _) (kn_pl1_nd _ _) 0 rfl rfl rfl rfl hl.1 rfl (Nat.le_of_ble_eq_true rfl) (kn_dec tX4_readFact 31 rfl) ⟨(Nat.le_of_ble_eq_true rfl), (Nat.le_of_ble_eq_true rfl)⟩) (fun u3 H locs h I => ?_)
    have I : kn_I D tc (kn_A w0 s.heap.size) s.heap (List.flatten [[(kRuleReader, ad_q, _)], [(kReader, ad_r, _)], [(kRule, ad_u, _)], [(kTin, ad_t, _)]]) _ _ := I.perm (kn_segB (sC := [[(kRuleReader, ad_q, _)], [(kRule, ad_u, _)]]) (sR := [[(kReader, ad_r, _)], [(kTin, ad_t, _)]]) (segs := [[(kRuleReader, ad_q, _)], [(kReader, ad_r, _)], [(kRule, ad_u, _)], [(kTin, ad_t, _)]]) [0, 2, 1, 3] rfl rfl)
    have I : kn_I D tc (kn_A w0 s.heap.size) s.heap [(kRuleReader, ad_q, _), (kReader, ad_r, _), (kRule, ad_u, _), (kTin, ad_t, _)] _ _ := I
    refine lv_goto (tgt := 156) hx hb (kn_dec tX4_readFact 32 rfl) (by decide) ?_
    exact kw_vret hx hb hr hlocks I (v_q, u3, v_u) rfl h (kn_dec tX4_readFact 77 rfl)
def PX4_readFact_g_b35 (R_X4_readTest : OV → OV → OV → OV → Int32 → (OV → OV → OV → Prop) → Prop) (R_X4_readFact : OV → OV → OV → OV → Int32 → (OV → OV → OV → Prop) → Prop) (v_t : OV)  (post : OV → OV → OV → Prop) (t0 : Int32) (y1 : Int32) (y2 : Int32) (v_q : OV) (v_r : OV) (v_u : OV) : Prop := ((¬ y2 = ((0 : Int32)) → PX4_readFact_g_b44 R_X4_readTest R_X4_readFact v_t post y1 y2 t0 v_q v_r v_u) ∧ (y2 = ((0 : Int32)) → ((t0 = ((0 : Int32)) → PX4_readFact_g_b68 R_X4_readTest R_X4_readFact v_t post y1 y2 t0 v_q v_r v_u) ∧ (¬ t0 = ((0 : Int32)) → PX4_readFact_g_b44 R_X4_readTest R_X4_readFact v_t post y1 y2 t0 v_q v_r v_u))))
set_option maxRecDepth 100000 in
set_option maxHeartbeats 1000000 in
theorem wX4_readFact_g_b35 {R_X4_readTest : OV → OV → OV → OV → Int32 → (OV → OV → OV → Prop) → Prop} {R_X4_readFact : OV → OV → OV → OV → Int32 → (OV → OV → OV → Prop) → Prop} {v_t : OV}  {post : OV → OV → OV → Prop} {ad_q : Nat → Nat} {ad_r : Nat → Nat} {ad_u : Nat → Nat} {ad_t : Nat → Nat} (X : kn_X p s m args meth c cX4_readFact 5 none RX4 kn_all D tc Z (kn_A w0 s.heap.size)) (e_r_0 : ad_r (0 + 1) = ad_t (0 + 1)) (e_q_0 : ad_q (0 + 1) = ad_r 0) (e_q_1 : ad_q (1 + 1) = ad_u 0) {rmR : Room} (hR0 : rmR.cells = 0 ∧ rmR.slots = 0) (hR_X4_readTest : ∀ {ad_q : Nat → Nat} {ad_r : Nat → Nat} {ad_u : Nat → Nat} {ad_t : Nat → Nat} (e_r_0 : ad_r (0 + 1) = ad_t (0 + 1)) (e_q_0 : ad_q (0 + 1) = ad_r 0) (e_q_1 : ad_q (1 + 1) = ad_u 0) {v_q : OV} {v_r : OV} {v_u : OV} {v_t : OV} {a1 : Int32} {post : OV → OV → OV → Prop}, R_X4_readTest v_q v_r v_u v_t a1 post → CTv l D tc Z yX4_readTest (Cond.code yX4_readTest cX4_readTest 5 none :: kn_all) rmR 0 0 [.ref (ad_q 0), .int a1] [(kRuleReader, ad_q, v_q), (kReader, ad_r, v_r), (kRule, ad_u, v_u), (kTin, ad_t, v_t)] (fun (u : OV × OV × OV) => [(kRuleReader, ad_q, u.1), (kReader, ad_r, u.2.1), (kRule, ad_u, u.2.2), (kTin, ad_t, v_t)]) (fun (u : OV × OV × OV) => post u.1 u.2.1 u.2.2)) (hR_X4_readFact : ∀ {ad_q : Nat → Nat} {ad_r : Nat → Nat} {ad_u : Nat → Nat} {ad_t : Nat → Nat} (e_r_0 : ad_r (0 + 1) = ad_t (0 + 1)) (e_q_0 : ad_q (0 + 1) = ad_r 0) (e_q_1 : ad_q (1 + 1) = ad_u 0) {v_q : OV} {v_r : OV} {v_u : OV} {v_t : OV} {a1 : Int32} {post : OV → OV → OV → Prop}, R_X4_readFact v_q v_r v_u v_t a1 post → CTv l D tc Z yX4_readFact (Cond.code yX4_readFact cX4_readFact 5 none :: kn_all) rmR 0 0 [.ref (ad_q 0), .int a1] [(kRuleReader, ad_q, v_q), (kReader, ad_r, v_r), (kRule, ad_u, v_u), (kTin, ad_t, v_t)] (fun (u : OV × OV × OV) => [(kRuleReader, ad_q, u.1), (kReader, ad_r, u.2.1), (kRule, ad_u, u.2.2), (kTin, ad_t, v_t)]) (fun (u : OV × OV × OV) => post u.1 u.2.1 u.2.2))  : ∀ (H : Heap) (locs : List Loc) (ls : Array Slot) (t0 : Int32) (y1 : Int32) (y2 : Int32) (v_q : OV) (v_r : OV) (v_u : OV), (hz_t0 : t0 = 0 ∨ t0 = 1) → (hz_y2 : y2 = 0 ∨ y2 = 1) → kn_I D tc (kn_A w0 s.heap.size) s.heap [(kRuleReader, ad_q, v_q), (kReader, ad_r, v_r), (kRule, ad_u, v_u), (kTin, ad_t, v_t)] H locs → lv_has ls 5 [(0, .ref (ad_q 0)), (1, .int y1), (2, .int y2)] → PX4_readFact_g_b35 R_X4_readTest R_X4_readFact v_t post t0 y1 y2 v_q v_r v_u → W p l e (rmS rmR) s m args below meth c H locs 0 0 (kn_Qv D tc w0 (fun (u : OV × OV × OV) => [(kRuleReader, ad_q, u.1), (kReader, ad_r, u.2.1), (kRule, ad_u, u.2.2), (kTin, ad_t, v_t)]) (fun (u : OV × OV × OV) => post u.1 u.2.1 u.2.2) below args s 0 0) (F0 m 35 ls [.int t0]) := by
  obtain ⟨S0, hr, hlocks, hK, hZ, hA⟩ := id X
  obtain ⟨hx, hb, hml, hown, hts⟩ := id S0
  intro H locs ls t0 y1 y2 v_q v_r v_u hz_t0 hz_y2 I hl h
  unfold PX4_readFact_g_b35 at h
  refine lv_istore_n (lv' := [(3, .int _), (0, .ref (ad_q 0)), (1, .int _), (2, .int _)]) hx hb (kn_dec tX4_readFact 17 rfl) rfl hl (by decide) rfl (fun ls hl => ?_)
  refine lv_iload_n hx hb (kn_dec tX4_readFact 18 rfl) rfl (lv_at hl 3 rfl) ?_
  refine lv_if_ne (tgt := 44) hx hb (kn_dec tX4_readFact 19 rfl) (by decide) (fun c1 => ?_) (fun c1 => ?_)
  · have h := h.1 c1
    exact wX4_readFact_g_b44 X e_r_0 e_q_0 e_q_1 hR0 hR_X4_readTest hR_X4_readFact _ _ _ _ _ _ _ _ _ hz_y2 hz_t0 I (lv_sub hl [1, 2, 3, 0] rfl) h
  · have h := h.2 c1
    refine lv_iload_n hx hb (kn_dec tX4_readFact 20 rfl) rfl (lv_at hl 0 rfl) ?_
    refine lv_if_eq (tgt := 68) hx hb (kn_dec tX4_readFact 21 rfl) (by decide) (fun c2 => ?_) (fun c2 => ?_)
    · have h := h.1 c2
      exact wX4_readFact_g_b68 X e_r_0 e_q_0 e_q_1 hR0 hR_X4_readTest hR_X4_readFact _ _ _ _ _ _ _ _ _ hz_y2 hz_t0 I (lv_sub hl [1, 2, 3, 0] rfl) h
    · have h := h.2 c2
      exact wX4_readFact_g_b44 X e_r_0 e_q_0 e_q_1 hR0 hR_X4_readTest hR_X4_readFact _ _ _ _ _ _ _ _ _ hz_y2 hz_t0 I (lv_sub hl [1, 2, 3, 0] rfl) h
def PX4_readFact_g_b17 (R_X4_readTest : OV → OV → OV → OV → Int32 → (OV → OV → OV → Prop) → Prop) (R_X4_readFact : OV → OV → OV → OV → Int32 → (OV → OV → OV → Prop) → Prop) (v_t : OV)  (post : OV → OV → OV → Prop) (t0 : Int32) (y1 : Int32) (v_q : OV) (v_r : OV) (v_u : OV) : Prop := (PX2_word v_r v_t 5 (fun r2 v_r1 => ((¬ r2 = ((0 : Int32)) → PX4_readFact_g_b35 R_X4_readTest R_X4_readFact v_t post ((0 : Int32)) y1 t0 v_q v_r1 v_u) ∧ (r2 = ((0 : Int32)) → PX4_readFact_g_b35 R_X4_readTest R_X4_readFact v_t post ((1 : Int32)) y1 t0 v_q v_r1 v_u))))
set_option maxRecDepth 100000 in
set_option maxHeartbeats 1000000 in
theorem wX4_readFact_g_b17 {R_X4_readTest : OV → OV → OV → OV → Int32 → (OV → OV → OV → Prop) → Prop} {R_X4_readFact : OV → OV → OV → OV → Int32 → (OV → OV → OV → Prop) → Prop} {v_t : OV}  {post : OV → OV → OV → Prop} {ad_q : Nat → Nat} {ad_r : Nat → Nat} {ad_u : Nat → Nat} {ad_t : Nat → Nat} (X : kn_X p s m args meth c cX4_readFact 5 none RX4 kn_all D tc Z (kn_A w0 s.heap.size)) (e_r_0 : ad_r (0 + 1) = ad_t (0 + 1)) (e_q_0 : ad_q (0 + 1) = ad_r 0) (e_q_1 : ad_q (1 + 1) = ad_u 0) {rmR : Room} (hR0 : rmR.cells = 0 ∧ rmR.slots = 0) (hR_X4_readTest : ∀ {ad_q : Nat → Nat} {ad_r : Nat → Nat} {ad_u : Nat → Nat} {ad_t : Nat → Nat} (e_r_0 : ad_r (0 + 1) = ad_t (0 + 1)) (e_q_0 : ad_q (0 + 1) = ad_r 0) (e_q_1 : ad_q (1 + 1) = ad_u 0) {v_q : OV} {v_r : OV} {v_u : OV} {v_t : OV} {a1 : Int32} {post : OV → OV → OV → Prop}, R_X4_readTest v_q v_r v_u v_t a1 post → CTv l D tc Z yX4_readTest (Cond.code yX4_readTest cX4_readTest 5 none :: kn_all) rmR 0 0 [.ref (ad_q 0), .int a1] [(kRuleReader, ad_q, v_q), (kReader, ad_r, v_r), (kRule, ad_u, v_u), (kTin, ad_t, v_t)] (fun (u : OV × OV × OV) => [(kRuleReader, ad_q, u.1), (kReader, ad_r, u.2.1), (kRule, ad_u, u.2.2), (kTin, ad_t, v_t)]) (fun (u : OV × OV × OV) => post u.1 u.2.1 u.2.2)) (hR_X4_readFact : ∀ {ad_q : Nat → Nat} {ad_r : Nat → Nat} {ad_u : Nat → Nat} {ad_t : Nat → Nat} (e_r_0 : ad_r (0 + 1) = ad_t (0 + 1)) (e_q_0 : ad_q (0 + 1) = ad_r 0) (e_q_1 : ad_q (1 + 1) = ad_u 0) {v_q : OV} {v_r : OV} {v_u : OV} {v_t : OV} {a1 : Int32} {post : OV → OV → OV → Prop}, R_X4_readFact v_q v_r v_u v_t a1 post → CTv l D tc Z yX4_readFact (Cond.code yX4_readFact cX4_readFact 5 none :: kn_all) rmR 0 0 [.ref (ad_q 0), .int a1] [(kRuleReader, ad_q, v_q), (kReader, ad_r, v_r), (kRule, ad_u, v_u), (kTin, ad_t, v_t)] (fun (u : OV × OV × OV) => [(kRuleReader, ad_q, u.1), (kReader, ad_r, u.2.1), (kRule, ad_u, u.2.2), (kTin, ad_t, v_t)]) (fun (u : OV × OV × OV) => post u.1 u.2.1 u.2.2))  : ∀ (H : Heap) (locs : List Loc) (ls : Array Slot) (t0 : Int32) (y1 : Int32) (v_q : OV) (v_r : OV) (v_u : OV), (hz_t0 : t0 = 0 ∨ t0 = 1) → kn_I D tc (kn_A w0 s.heap.size) s.heap [(kRuleReader, ad_q, v_q), (kReader, ad_r, v_r), (kRule, ad_u, v_u), (kTin, ad_t, v_t)] H locs → lv_has ls 5 [(0, .ref (ad_q 0)), (1, .int y1)] → PX4_readFact_g_b17 R_X4_readTest R_X4_readFact v_t post t0 y1 v_q v_r v_u → W p l e (rmS rmR) s m args below meth c H locs 0 0 (kn_Qv D tc w0 (fun (u : OV × OV × OV) => [(kRuleReader, ad_q, u.1), (kReader, ad_r, u.2.1), (kRule, ad_u, u.2.2), (kTin, ad_t, v_t)]) (fun (u : OV × OV × OV) => post u.1 u.2.1 u.2.2) below args s 0 0) (F0 m 17 ls [.int t0]) := by
  obtain ⟨S0, hr, hlocks, hK, hZ, hA⟩ := id X
  obtain ⟨hx, hb, hml, hown, hts⟩ := id S0
  intro H locs ls t0 y1 v_q v_r v_u hz_t0 I hl h
  unfold PX4_readFact_g_b17 at h
  refine lv_istore_n (lv' := [(2, .int _), (0, .ref (ad_q 0)), (1, .int _)]) hx hb (kn_dec tX4_readFact 8 rfl) rfl hl (by decide) rfl (fun ls hl => ?_)
  refine lv_aload_n hx hb (kn_dec tX4_readFact 9 rfl) rfl (lv_at hl 1 rfl) ?_
  refine kw_getl hx hb hts inX4 hown hK I 0 rfl rfl 0 (by decide) rfl (hts _ q1_94) (kn_dec tX4_readFact 10 rfl) e_q_0 ?_
  refine va_ldcS hx hb hown (hZ.1 5 _ rfl).1 (kn_dec tX4_readFact 11 rfl) ?_
  have I : kn_I D tc (kn_A w0 s.heap.size) s.heap ([(kReader, ad_r, _), (kTin, ad_t, _)] ++ (List.flatten [[(kRuleReader, ad_q, _)], [(kRule, ad_u, _)]])) _ _ := I.perm (kn_segA (segs := [[(kRuleReader, ad_q, _)], [(kReader, ad_r, _)], [(kRule, ad_u, _)], [(kTin, ad_t, _)]]) (sC := [[(kReader, ad_r, _)], [(kTin, ad_t, _)]]) (sR := [[(kRuleReader, ad_q, _)], [(kRule, ad_u, _)]]) [1, 3, 0, 2] rfl rfl)
  refine kw_calli (wc := [(kReader, ad_r, _), (kTin, ad_t, _)]) (wr := (List.flatten [[(kRuleReader, ad_q, _)], [(kRule, ad_u, _)]])) I hA (kn_pl1 _ _) (kn_pl2 _ _) (kn_pl1_ok _ _) (kn_pl2_ok _ _) (kn_pl2_nd _ _) (kn_pl_dis _ _) (kn_runV (As := [.ref (Z.1 5)]) S0 hK hZ hA I ((ctX2_word e_r_0 h).met _) (kn_cwV 1 hts q3_61 q2_171 q2_172 q1_3 q2_173 rfl rfl (by decide +kernel) ⟨(Nat.le_trans (m := 20) (Nat.le_of_ble_eq_true rfl) (Nat.le_add_left _ _)), (Nat.le_trans (m := 400) (Nat.le_of_ble_eq_true rfl) (Nat.le_add_left _ _))⟩) (kn_pl1 _ _) (kn_pl1_ok _ _) (kn_pl1_nd _ _) 0 rfl rfl rfl rfl hl.1 rfl (Nat.le_of_ble_eq_true rfl) (kn_dec tX4_readFact 12 rfl) ⟨(Nat.le_of_ble_eq_true rfl), (Nat.le_of_ble_eq_true rfl)⟩) (fun r2 u3 H locs h I => ?_)
  have I : kn_I D tc (kn_A w0 s.heap.size) s.heap (List.flatten [[(kRuleReader, ad_q, _)], [(kReader, ad_r, _)], [(kRule, ad_u, _)], [(kTin, ad_t, _)]]) _ _ := I.perm (kn_segB (sC := [[(kRuleReader, ad_q, _)], [(kRule, ad_u, _)]]) (sR := [[(kReader, ad_r, _)], [(kTin, ad_t, _)]]) (segs := [[(kRuleReader, ad_q, _)], [(kReader, ad_r, _)], [(kRule, ad_u, _)], [(kTin, ad_t, _)]]) [0, 2, 1, 3] rfl rfl)
  have I : kn_I D tc (kn_A w0 s.heap.size) s.heap [(kRuleReader, ad_q, _), (kReader, ad_r, _), (kRule, ad_u, _), (kTin, ad_t, _)] _ _ := I
  refine lv_if_ne (tgt := 34) hx hb (kn_dec tX4_readFact 13 rfl) (by decide) (fun c4 => ?_) (fun c4 => ?_)
  · have h := h.1 c4
    refine lv_iconst (v := (0)) hx hb (kn_dec tX4_readFact 16 rfl) (by decide) ?_
    exact wX4_readFact_g_b35 X e_r_0 e_q_0 e_q_1 hR0 hR_X4_readTest hR_X4_readFact _ _ _ _ _ _ _ _ _ (Or.inl rfl) hz_t0 I (lv_sub hl [1, 2, 0] rfl) h
  · have h := h.2 c4
    refine lv_iconst (v := (1)) hx hb (kn_dec tX4_readFact 14 rfl) (by decide) ?_
    refine lv_goto (tgt := 35) hx hb (kn_dec tX4_readFact 15 rfl) (by decide) ?_
    exact wX4_readFact_g_b35 X e_r_0 e_q_0 e_q_1 hR0 hR_X4_readTest hR_X4_readFact _ _ _ _ _ _ _ _ _ (Or.inr rfl) hz_t0 I (lv_sub hl [1, 2, 0] rfl) h
def PX4_readFact_g (R_X4_readTest : OV → OV → OV → OV → Int32 → (OV → OV → OV → Prop) → Prop) (R_X4_readFact : OV → OV → OV → OV → Int32 → (OV → OV → OV → Prop) → Prop) (v_q : OV) (v_r : OV) (v_u : OV) (v_t : OV) (a1 : Int32) (post : OV → OV → OV → Prop) : Prop := (PX2_next v_r v_t (fun r2 v_r1 => ((¬ r2 = ((91 : Int32)) → PX4_readFact_g_b17 R_X4_readTest R_X4_readFact v_t post ((0 : Int32)) a1 v_q v_r1 v_u) ∧ (r2 = ((91 : Int32)) → PX4_readFact_g_b17 R_X4_readTest R_X4_readFact v_t post ((1 : Int32)) a1 v_q v_r1 v_u))))
set_option maxRecDepth 100000 in
set_option maxHeartbeats 1000000 in
theorem ctX4_readFact_g {l : Launch} {D : va_G} {tc : Nat → ClassId} {Z : (Nat → Nat) × (Nat → Nat)} {R_X4_readTest : OV → OV → OV → OV → Int32 → (OV → OV → OV → Prop) → Prop} {R_X4_readFact : OV → OV → OV → OV → Int32 → (OV → OV → OV → Prop) → Prop} {ad_q : Nat → Nat} {ad_r : Nat → Nat} {ad_u : Nat → Nat} {ad_t : Nat → Nat} {v_q : OV} {v_r : OV} {v_u : OV} {v_t : OV} {a1 : Int32} (e_r_0 : ad_r (0 + 1) = ad_t (0 + 1)) (e_q_0 : ad_q (0 + 1) = ad_r 0) (e_q_1 : ad_q (1 + 1) = ad_u 0) {rmR : Room} (hR0 : rmR.cells = 0 ∧ rmR.slots = 0) (hR_X4_readTest : ∀ {ad_q : Nat → Nat} {ad_r : Nat → Nat} {ad_u : Nat → Nat} {ad_t : Nat → Nat} (e_r_0 : ad_r (0 + 1) = ad_t (0 + 1)) (e_q_0 : ad_q (0 + 1) = ad_r 0) (e_q_1 : ad_q (1 + 1) = ad_u 0) {v_q : OV} {v_r : OV} {v_u : OV} {v_t : OV} {a1 : Int32} {post : OV → OV → OV → Prop}, R_X4_readTest v_q v_r v_u v_t a1 post → CTv l D tc Z yX4_readTest (Cond.code yX4_readTest cX4_readTest 5 none :: kn_all) rmR 0 0 [.ref (ad_q 0), .int a1] [(kRuleReader, ad_q, v_q), (kReader, ad_r, v_r), (kRule, ad_u, v_u), (kTin, ad_t, v_t)] (fun (u : OV × OV × OV) => [(kRuleReader, ad_q, u.1), (kReader, ad_r, u.2.1), (kRule, ad_u, u.2.2), (kTin, ad_t, v_t)]) (fun (u : OV × OV × OV) => post u.1 u.2.1 u.2.2)) (hR_X4_readFact : ∀ {ad_q : Nat → Nat} {ad_r : Nat → Nat} {ad_u : Nat → Nat} {ad_t : Nat → Nat} (e_r_0 : ad_r (0 + 1) = ad_t (0 + 1)) (e_q_0 : ad_q (0 + 1) = ad_r 0) (e_q_1 : ad_q (1 + 1) = ad_u 0) {v_q : OV} {v_r : OV} {v_u : OV} {v_t : OV} {a1 : Int32} {post : OV → OV → OV → Prop}, R_X4_readFact v_q v_r v_u v_t a1 post → CTv l D tc Z yX4_readFact (Cond.code yX4_readFact cX4_readFact 5 none :: kn_all) rmR 0 0 [.ref (ad_q 0), .int a1] [(kRuleReader, ad_q, v_q), (kReader, ad_r, v_r), (kRule, ad_u, v_u), (kTin, ad_t, v_t)] (fun (u : OV × OV × OV) => [(kRuleReader, ad_q, u.1), (kReader, ad_r, u.2.1), (kRule, ad_u, u.2.2), (kTin, ad_t, v_t)]) (fun (u : OV × OV × OV) => post u.1 u.2.1 u.2.2))  {post : OV → OV → OV → Prop} (h : PX4_readFact_g R_X4_readTest R_X4_readFact v_q v_r v_u v_t a1 post) : CTv l D tc Z yX4_readFact (Cond.code yX4_readFact cX4_readFact 5 none :: kn_all) (rmS rmR) 0 0 [.ref (ad_q 0), .int a1] [(kRuleReader, ad_q, v_q), (kReader, ad_r, v_r), (kRule, ad_u, v_u), (kTin, ad_t, v_t)] (fun (u : OV × OV × OV) => [(kRuleReader, ad_q, u.1), (kReader, ad_r, u.2.1), (kRule, ad_u, u.2.2), (kTin, ad_t, v_t)]) (fun (u : OV × OV × OV) => post u.1 u.2.1 u.2.2) := by
  refine kn_ofv (cc := cX4_readFact) (nL := 5) (ret := none) (lv := [(0, .ref (ad_q 0)), (1, .int a1)]) (by decide) (Nat.le_of_ble_eq_true rfl) rfl (fun p e s m below meth c ls X I hl _ => ?_)
  obtain ⟨S0, hr, hlocks, hK, hZ, hA⟩ := id X
  obtain ⟨hx, hb, hml, hown, hts⟩ := id S0
  unfold PX4_readFact_g at h
  refine lv_aload_n hx hb (kn_dec tX4_readFact 0 rfl) rfl (lv_at hl 0 rfl) ?_
  refine kw_getl hx hb hts inX4 hown hK I 0 rfl rfl 0 (by decide) rfl (hts _ q1_94) (kn_dec tX4_readFact 1 rfl) e_q_0 ?_
  have I : kn_I D tc (kn_A _ s.heap.size) s.heap ([(kReader, ad_r, _), (kTin, ad_t, _)] ++ (List.flatten [[(kRuleReader, ad_q, _)], [(kRule, ad_u, _)]])) _ _ := I.perm (kn_segA (segs := [[(kRuleReader, ad_q, _)], [(kReader, ad_r, _)], [(kRule, ad_u, _)], [(kTin, ad_t, _)]]) (sC := [[(kReader, ad_r, _)], [(kTin, ad_t, _)]]) (sR := [[(kRuleReader, ad_q, _)], [(kRule, ad_u, _)]]) [1, 3, 0, 2] rfl rfl)
  refine kw_calli (wc := [(kReader, ad_r, _), (kTin, ad_t, _)]) (wr := (List.flatten [[(kRuleReader, ad_q, _)], [(kRule, ad_u, _)]])) I hA (kn_pl1 _ _) (kn_pl2 _ _) (kn_pl1_ok _ _) (kn_pl2_ok _ _) (kn_pl2_nd _ _) (kn_pl_dis _ _) (kn_runV (As := []) S0 hK hZ hA I ((ctX2_next e_r_0 h).met _) (kn_cwV 0 hts q3_76 q2_175 q2_176 q1_3 q2_177 rfl rfl (by decide +kernel) ⟨(Nat.le_trans (m := 20) (Nat.le_of_ble_eq_true rfl) (Nat.le_add_left _ _)), (Nat.le_trans (m := 400) (Nat.le_of_ble_eq_true rfl) (Nat.le_add_left _ _))⟩) (kn_pl1 _ _) (kn_pl1_ok _ _) (kn_pl1_nd _ _) 0 rfl rfl rfl rfl hl.1 rfl (Nat.le_of_ble_eq_true rfl) (kn_dec tX4_readFact 2 rfl) ⟨(Nat.le_of_ble_eq_true rfl), (Nat.le_of_ble_eq_true rfl)⟩) (fun r2 u3 H locs h I => ?_)
  have I : kn_I D tc (kn_A _ s.heap.size) s.heap (List.flatten [[(kRuleReader, ad_q, _)], [(kReader, ad_r, _)], [(kRule, ad_u, _)], [(kTin, ad_t, _)]]) _ _ := I.perm (kn_segB (sC := [[(kRuleReader, ad_q, _)], [(kRule, ad_u, _)]]) (sR := [[(kReader, ad_r, _)], [(kTin, ad_t, _)]]) (segs := [[(kRuleReader, ad_q, _)], [(kReader, ad_r, _)], [(kRule, ad_u, _)], [(kTin, ad_t, _)]]) [0, 2, 1, 3] rfl rfl)
  have I : kn_I D tc (kn_A _ s.heap.size) s.heap [(kRuleReader, ad_q, _), (kReader, ad_r, _), (kRule, ad_u, _), (kTin, ad_t, _)] _ _ := I
  refine lv_bipush (v := (91)) hx hb (kn_dec tX4_readFact 3 rfl) (by decide) ?_
  refine lv_icmp_ne (tgt := 16) hx hb (kn_dec tX4_readFact 4 rfl) (by decide) (fun c4 => ?_) (fun c4 => ?_)
  · have h := h.1 c4
    refine lv_iconst (v := (0)) hx hb (kn_dec tX4_readFact 7 rfl) (by decide) ?_
    exact wX4_readFact_g_b17 X e_r_0 e_q_0 e_q_1 hR0 hR_X4_readTest hR_X4_readFact _ _ _ _ _ _ _ _ (Or.inl rfl) I (lv_sub hl [0, 1] rfl) h
  · have h := h.2 c4
    refine lv_iconst (v := (1)) hx hb (kn_dec tX4_readFact 5 rfl) (by decide) ?_
    refine lv_goto (tgt := 17) hx hb (kn_dec tX4_readFact 6 rfl) (by decide) ?_
    exact wX4_readFact_g_b17 X e_r_0 e_q_0 e_q_1 hR0 hR_X4_readTest hR_X4_readFact _ _ _ _ _ _ _ _ (Or.inr rfl) I (lv_sub hl [0, 1] rfl) h

/-! X4_readTest -/
def PX4_readTest_g_b70 (R_X4_readTest : OV → OV → OV → OV → Int32 → (OV → OV → OV → Prop) → Prop) (R_X4_readFact : OV → OV → OV → OV → Int32 → (OV → OV → OV → Prop) → Prop) (v_t : OV) (K7 : Int32 → Int32 → Int32 → Int32 → OV → OV → OV → Prop) (post : OV → OV → OV → Prop) (y1 : Int32) (y3 : Int32) (y4 : Int32) (v_q : OV) (v_r : OV) (v_u : OV) : Prop := (PX2_takeWord v_r v_t 4 (fun r2 v_r1 => ((¬ r2 = ((0 : Int32)) → (∀ x5 : Int32, x5 = y4 + (1 : Int32) → K7 y1 r2 y3 x5 v_q v_r1 v_u)) ∧ (r2 = ((0 : Int32)) → post v_q v_r1 v_u))))
set_option maxRecDepth 100000 in
set_option maxHeartbeats 1000000 in
theorem wX4_readTest_g_b70 {R_X4_readTest : OV → OV → OV → OV → Int32 → (OV → OV → OV → Prop) → Prop} {R_X4_readFact : OV → OV → OV → OV → Int32 → (OV → OV → OV → Prop) → Prop} {v_t : OV} {K7 : Int32 → Int32 → Int32 → Int32 → OV → OV → OV → Prop} {post : OV → OV → OV → Prop} {ad_q : Nat → Nat} {ad_r : Nat → Nat} {ad_u : Nat → Nat} {ad_t : Nat → Nat} (X : kn_X p s m args meth c cX4_readTest 5 none RX4 kn_all D tc Z (kn_A w0 s.heap.size)) (e_r_0 : ad_r (0 + 1) = ad_t (0 + 1)) (e_q_0 : ad_q (0 + 1) = ad_r 0) (e_q_1 : ad_q (1 + 1) = ad_u 0) {rmR : Room} (hR0 : rmR.cells = 0 ∧ rmR.slots = 0) (hR_X4_readTest : ∀ {ad_q : Nat → Nat} {ad_r : Nat → Nat} {ad_u : Nat → Nat} {ad_t : Nat → Nat} (e_r_0 : ad_r (0 + 1) = ad_t (0 + 1)) (e_q_0 : ad_q (0 + 1) = ad_r 0) (e_q_1 : ad_q (1 + 1) = ad_u 0) {v_q : OV} {v_r : OV} {v_u : OV} {v_t : OV} {a1 : Int32} {post : OV → OV → OV → Prop}, R_X4_readTest v_q v_r v_u v_t a1 post → CTv l D tc Z yX4_readTest (Cond.code yX4_readTest cX4_readTest 5 none :: kn_all) rmR 0 0 [.ref (ad_q 0), .int a1] [(kRuleReader, ad_q, v_q), (kReader, ad_r, v_r), (kRule, ad_u, v_u), (kTin, ad_t, v_t)] (fun (u : OV × OV × OV) => [(kRuleReader, ad_q, u.1), (kReader, ad_r, u.2.1), (kRule, ad_u, u.2.2), (kTin, ad_t, v_t)]) (fun (u : OV × OV × OV) => post u.1 u.2.1 u.2.2)) (hR_X4_readFact : ∀ {ad_q : Nat → Nat} {ad_r : Nat → Nat} {ad_u : Nat → Nat} {ad_t : Nat → Nat} (e_r_0 : ad_r (0 + 1) = ad_t (0 + 1)) (e_q_0 : ad_q (0 + 1) = ad_r 0) (e_q_1 : ad_q (1 + 1) = ad_u 0) {v_q : OV} {v_r : OV} {v_u : OV} {v_t : OV} {a1 : Int32} {post : OV → OV → OV → Prop}, R_X4_readFact v_q v_r v_u v_t a1 post → CTv l D tc Z yX4_readFact (Cond.code yX4_readFact cX4_readFact 5 none :: kn_all) rmR 0 0 [.ref (ad_q 0), .int a1] [(kRuleReader, ad_q, v_q), (kReader, ad_r, v_r), (kRule, ad_u, v_u), (kTin, ad_t, v_t)] (fun (u : OV × OV × OV) => [(kRuleReader, ad_q, u.1), (kReader, ad_r, u.2.1), (kRule, ad_u, u.2.2), (kTin, ad_t, v_t)]) (fun (u : OV × OV × OV) => post u.1 u.2.1 u.2.2)) (hK7 : ∀ (H : Heap) (locs : List Loc) (ls : Array Slot) (y1 : Int32) (y2 : Int32) (y3 : Int32) (y4 : Int32) (v_q : OV) (v_r : OV) (v_u : OV), (hz_y2 : y2 = 0 ∨ y2 = 1) → (hz_y3 : y3 = 0 ∨ y3 = 1) → kn_I D tc (kn_A w0 s.heap.size) s.heap [(kRuleReader, ad_q, v_q), (kReader, ad_r, v_r), (kRule, ad_u, v_u), (kTin, ad_t, v_t)] H locs → lv_has ls 5 [(0, .ref (ad_q 0)), (1, .int y1), (2, .int y2), (3, .int y3), (4, .int y4)] → K7 y1 y2 y3 y4 v_q v_r v_u → W p l e (rmS rmR) s m args below meth c H locs 0 0 (kn_Qv D tc w0 (fun (u : OV × OV × OV) => [(kRuleReader, ad_q, u.1), (kReader, ad_r, u.2.1), (kRule, ad_u, u.2.2), (kTin, ad_t, v_t)]) (fun (u : OV × OV × OV) => post u.1 u.2.1 u.2.2) below args s 0 0) (F0 m 7 ls [])) : ∀ (H : Heap) (locs : List Loc) (ls : Array Slot) (y1 : Int32) (y3 : Int32) (y4 : Int32) (v_q : OV) (v_r : OV) (v_u : OV), (hz_y3 : y3 = 0 ∨ y3 = 1) → kn_I D tc (kn_A w0 s.heap.size) s.heap [(kRuleReader, ad_q, v_q), (kReader, ad_r, v_r), (kRule, ad_u, v_u), (kTin, ad_t, v_t)] H locs → lv_has ls 5 [(0, .ref (ad_q 0)), (1, .int y1), (3, .int y3), (4, .int y4)] → PX4_readTest_g_b70 R_X4_readTest R_X4_readFact v_t K7 post y1 y3 y4 v_q v_r v_u → W p l e (rmS rmR) s m args below meth c H locs 0 0 (kn_Qv D tc w0 (fun (u : OV × OV × OV) => [(kRuleReader, ad_q, u.1), (kReader, ad_r, u.2.1), (kRule, ad_u, u.2.2), (kTin, ad_t, v_t)]) (fun (u : OV × OV × OV) => post u.1 u.2.1 u.2.2) below args s 0 0) (F0 m 70 ls []) := by
  obtain ⟨S0, hr, hlocks, hK, hZ, hA⟩ := id X
  obtain ⟨hx, hb, hml, hown, hts⟩ := id S0
  intro H locs ls y1 y3 y4 v_q v_r v_u hz_y3 I hl h
  unfold PX4_readTest_g_b70 at h
  refine lv_aload_n hx hb (kn_dec tX4_readTest 35 rfl) rfl (lv_at hl 0 rfl) ?_
  refine kw_getl hx hb hts inX4 hown hK I 0 rfl rfl 0 (by decide) rfl (hts _ q1_94) (kn_dec tX4_readTest 36 rfl) e_q_0 ?_
  refine va_ldcS hx hb hown (hZ.1 4 _ rfl).1 (kn_dec tX4_readTest 37 rfl) ?_
  have I : kn_I D tc (kn_A w0 s.heap.size) s.heap ([(kReader, ad_r, _), (kTin, ad_t, _)] ++ (List.flatten [[(kRuleReader, ad_q, _)], [(kRule, ad_u, _)]])) _ _ := I.perm (kn_segA (segs := [[(kRuleReader, ad_q, _)], [(kReader, ad_r, _)], [(kRule, ad_u, _)], [(kTin, ad_t, _)]]) (sC := [[(kReader, ad_r, _)], [(kTin, ad_t, _)]]) (sR := [[(kRuleReader, ad_q, _)], [(kRule, ad_u, _)]]) [1, 3, 0, 2] rfl rfl)
  refine kw_calli (wc := [(kReader, ad_r, _), (kTin, ad_t, _)]) (wr := (List.flatten [[(kRuleReader, ad_q, _)], [(kRule, ad_u, _)]])) I hA (kn_pl1 _ _) (kn_pl2 _ _) (kn_pl1_ok _ _) (kn_pl2_ok _ _) (kn_pl2_nd _ _) (kn_pl_dis _ _) (kn_runV (As := [.ref (Z.1 4)]) S0 hK hZ hA I ((ctX2_takeWord e_r_0 h).met _) (kn_cwV 1 hts q3_63 q3_64 q3_65 q1_3 q3_66 rfl rfl (by decide +kernel) ⟨(Nat.le_trans (m := 20) (Nat.le_of_ble_eq_true rfl) (Nat.le_add_left _ _)), (Nat.le_trans (m := 400) (Nat.le_of_ble_eq_true rfl) (Nat.le_add_left _ _))⟩) (kn_pl1 _ _) (kn_pl1_ok _ _) (kn_pl1_nd _ _) 0 rfl rfl rfl rfl hl.1 rfl (Nat.le_of_ble_eq_true rfl) (kn_dec tX4_readTest 38 rfl) ⟨(Nat.le_of_ble_eq_true rfl), (Nat.le_of_ble_eq_true rfl)⟩) (fun r2 u3 H locs h I => ?_)
  obtain ⟨hz_r2, h⟩ := h
  have I : kn_I D tc (kn_A w0 s.heap.size) s.heap (List.flatten [[(kRuleReader, ad_q, _)], [(kReader, ad_r, _)], [(kRule, ad_u, _)], [(kTin, ad_t, _)]]) _ _ := I.perm (kn_segB (sC := [[(kRuleReader, ad_q, _)], [(kRule, ad_u, _)]]) (sR := [[(kReader, ad_r, _)], [(kTin, ad_t, _)]]) (segs := [[(kRuleReader, ad_q, _)], [(kReader, ad_r, _)], [(kRule, ad_u, _)], [(kTin, ad_t, _)]]) [0, 2, 1, 3] rfl rfl)
  have I : kn_I D tc (kn_A w0 s.heap.size) s.heap [(kRuleReader, ad_q, _), (kReader, ad_r, _), (kRule, ad_u, _), (kTin, ad_t, _)] _ _ := I
  refine lv_istore_n (lv' := [(2, .int _), (0, .ref (ad_q 0)), (1, .int _), (3, .int _), (4, .int _)]) hx hb (kn_dec tX4_readTest 39 rfl) rfl hl (by decide) rfl (fun ls hl => ?_)
  refine lv_iload_n hx hb (kn_dec tX4_readTest 40 rfl) rfl (lv_at hl 0 rfl) ?_
  refine lv_if_ne (tgt := 85) hx hb (kn_dec tX4_readTest 41 rfl) (by decide) (fun c4 => ?_) (fun c4 => ?_)
  · have h := h.1 c4
    refine kw_iinc (lvf := fun y => [(4, .int y), (2, .int _), (0, .ref (ad_q 0)), (1, .int _), (3, .int _)]) (nv := (1)) hx hb (kn_dec tX4_readTest 43 rfl) hl (k := 4) rfl (by decide) (by decide) (fun _ => rfl) (fun x5 ex5 ls hl => ?_)
    have h := h x5 ex5
    refine lv_goto (tgt := 7) hx hb (kn_dec tX4_readTest 44 rfl) (by decide) ?_
    exact hK7 _ _ _ _ _ _ _ _ _ _ hz_r2 hz_y3 I (lv_sub hl [2, 3, 1, 4, 0] rfl) h
  · have h := h.2 c4
    exact kw_vret hx hb hr hlocks I (v_q, u3, v_u) rfl h (kn_dec tX4_readTest 42 rfl)
def PX4_readTest_g_b43 (R_X4_readTest : OV → OV → OV → OV → Int32 → (OV → OV → OV → Prop) → Prop) (R_X4_readFact : OV → OV → OV → OV → Int32 → (OV → OV → OV → Prop) → Prop) (v_t : OV) (K7 : Int32 → Int32 → Int32 → Int32 → OV → OV → OV → Prop) (post : OV → OV → OV → Prop) (y1 : Int32) (y2 : Int32) (y4 : Int32) (v_q : OV) (v_r : OV) (v_u : OV) : Prop := (PX2_takeWord v_r v_t 3 (fun r2 v_r1 => ((¬ r2 = ((0 : Int32)) → (∀ x5 : Int32, x5 = y4 + (1 : Int32) → K7 y1 y2 r2 x5 v_q v_r1 v_u)) ∧ (r2 = ((0 : Int32)) → ((y2 = ((0 : Int32)) → PX4_readTest_g_b70 R_X4_readTest R_X4_readFact v_t K7 post y1 r2 y4 v_q v_r1 v_u) ∧ (¬ y2 = ((0 : Int32)) → (PX3_put v_u ((-26 : Int32)) (fun v_u7 => PX4_readTest_g_b70 R_X4_readTest R_X4_readFact v_t K7 post y1 r2 y4 v_q v_r1 v_u7))))))))
set_option maxRecDepth 100000 in
set_option maxHeartbeats 1000000 in
theorem wX4_readTest_g_b43 {R_X4_readTest : OV → OV → OV → OV → Int32 → (OV → OV → OV → Prop) → Prop} {R_X4_readFact : OV → OV → OV → OV → Int32 → (OV → OV → OV → Prop) → Prop} {v_t : OV} {K7 : Int32 → Int32 → Int32 → Int32 → OV → OV → OV → Prop} {post : OV → OV → OV → Prop} {ad_q : Nat → Nat} {ad_r : Nat → Nat} {ad_u : Nat → Nat} {ad_t : Nat → Nat} (X : kn_X p s m args meth c cX4_readTest 5 none RX4 kn_all D tc Z (kn_A w0 s.heap.size)) (e_r_0 : ad_r (0 + 1) = ad_t (0 + 1)) (e_q_0 : ad_q (0 + 1) = ad_r 0) (e_q_1 : ad_q (1 + 1) = ad_u 0) {rmR : Room} (hR0 : rmR.cells = 0 ∧ rmR.slots = 0) (hR_X4_readTest : ∀ {ad_q : Nat → Nat} {ad_r : Nat → Nat} {ad_u : Nat → Nat} {ad_t : Nat → Nat} (e_r_0 : ad_r (0 + 1) = ad_t (0 + 1)) (e_q_0 : ad_q (0 + 1) = ad_r 0) (e_q_1 : ad_q (1 + 1) = ad_u 0) {v_q : OV} {v_r : OV} {v_u : OV} {v_t : OV} {a1 : Int32} {post : OV → OV → OV → Prop}, R_X4_readTest v_q v_r v_u v_t a1 post → CTv l D tc Z yX4_readTest (Cond.code yX4_readTest cX4_readTest 5 none :: kn_all) rmR 0 0 [.ref (ad_q 0), .int a1] [(kRuleReader, ad_q, v_q), (kReader, ad_r, v_r), (kRule, ad_u, v_u), (kTin, ad_t, v_t)] (fun (u : OV × OV × OV) => [(kRuleReader, ad_q, u.1), (kReader, ad_r, u.2.1), (kRule, ad_u, u.2.2), (kTin, ad_t, v_t)]) (fun (u : OV × OV × OV) => post u.1 u.2.1 u.2.2)) (hR_X4_readFact : ∀ {ad_q : Nat → Nat} {ad_r : Nat → Nat} {ad_u : Nat → Nat} {ad_t : Nat → Nat} (e_r_0 : ad_r (0 + 1) = ad_t (0 + 1)) (e_q_0 : ad_q (0 + 1) = ad_r 0) (e_q_1 : ad_q (1 + 1) = ad_u 0) {v_q : OV} {v_r : OV} {v_u : OV} {v_t : OV} {a1 : Int32} {post : OV → OV → OV → Prop}, R_X4_readFact v_q v_r v_u v_t a1 post → CTv l D tc Z yX4_readFact (Cond.code yX4_readFact cX4_readFact 5 none :: kn_all) rmR 0 0 [.ref (ad_q 0), .int a1] [(kRuleReader, ad_q, v_q), (kReader, ad_r, v_r), (kRule, ad_u, v_u), (kTin, ad_t, v_t)] (fun (u : OV × OV × OV) => [(kRuleReader, ad_q, u.1), (kReader, ad_r, u.2.1), (kRule, ad_u, u.2.2), (kTin, ad_t, v_t)]) (fun (u : OV × OV × OV) => post u.1 u.2.1 u.2.2)) (hK7 : ∀ (H : Heap) (locs : List Loc) (ls : Array Slot) (y1 : Int32) (y2 : Int32) (y3 : Int32) (y4 : Int32) (v_q : OV) (v_r : OV) (v_u : OV), (hz_y2 : y2 = 0 ∨ y2 = 1) → (hz_y3 : y3 = 0 ∨ y3 = 1) → kn_I D tc (kn_A w0 s.heap.size) s.heap [(kRuleReader, ad_q, v_q), (kReader, ad_r, v_r), (kRule, ad_u, v_u), (kTin, ad_t, v_t)] H locs → lv_has ls 5 [(0, .ref (ad_q 0)), (1, .int y1), (2, .int y2), (3, .int y3), (4, .int y4)] → K7 y1 y2 y3 y4 v_q v_r v_u → W p l e (rmS rmR) s m args below meth c H locs 0 0 (kn_Qv D tc w0 (fun (u : OV × OV × OV) => [(kRuleReader, ad_q, u.1), (kReader, ad_r, u.2.1), (kRule, ad_u, u.2.2), (kTin, ad_t, v_t)]) (fun (u : OV × OV × OV) => post u.1 u.2.1 u.2.2) below args s 0 0) (F0 m 7 ls [])) : ∀ (H : Heap) (locs : List Loc) (ls : Array Slot) (y1 : Int32) (y2 : Int32) (y4 : Int32) (v_q : OV) (v_r : OV) (v_u : OV), (hz_y2 : y2 = 0 ∨ y2 = 1) → kn_I D tc (kn_A w0 s.heap.size) s.heap [(kRuleReader, ad_q, v_q), (kReader, ad_r, v_r), (kRule, ad_u, v_u), (kTin, ad_t, v_t)] H locs → lv_has ls 5 [(0, .ref (ad_q 0)), (1, .int y1), (2, .int y2), (4, .int y4)] → PX4_readTest_g_b43 R_X4_readTest R_X4_readFact v_t K7 post y1 y2 y4 v_q v_r v_u → W p l e (rmS rmR) s m args below meth c H locs 0 0 (kn_Qv D tc w0 (fun (u : OV × OV × OV) => [(kRuleReader, ad_q, u.1), (kReader, ad_r, u.2.1), (kRule, ad_u, u.2.2), (kTin, ad_t, v_t)]) (fun (u : OV × OV × OV) => post u.1 u.2.1 u.2.2) below args s 0 0) (F0 m 43 ls []) := by
  obtain ⟨S0, hr, hlocks, hK, hZ, hA⟩ := id X
  obtain ⟨hx, hb, hml, hown, hts⟩ := id S0
  intro H locs ls y1 y2 y4 v_q v_r v_u hz_y2 I hl h
  unfold PX4_readTest_g_b43 at h
  refine lv_aload_n hx hb (kn_dec tX4_readTest 22 rfl) rfl (lv_at hl 0 rfl) ?_
  refine kw_getl hx hb hts inX4 hown hK I 0 rfl rfl 0 (by decide) rfl (hts _ q1_94) (kn_dec tX4_readTest 23 rfl) e_q_0 ?_
  refine va_ldcS hx hb hown (hZ.1 3 _ rfl).1 (kn_dec tX4_readTest 24 rfl) ?_
  have I : kn_I D tc (kn_A w0 s.heap.size) s.heap ([(kReader, ad_r, _), (kTin, ad_t, _)] ++ (List.flatten [[(kRuleReader, ad_q, _)], [(kRule, ad_u, _)]])) _ _ := I.perm (kn_segA (segs := [[(kRuleReader, ad_q, _)], [(kReader, ad_r, _)], [(kRule, ad_u, _)], [(kTin, ad_t, _)]]) (sC := [[(kReader, ad_r, _)], [(kTin, ad_t, _)]]) (sR := [[(kRuleReader, ad_q, _)], [(kRule, ad_u, _)]]) [1, 3, 0, 2] rfl rfl)
  refine kw_calli (wc := [(kReader, ad_r, _), (kTin, ad_t, _)]) (wr := (List.flatten [[(kRuleReader, ad_q, _)], [(kRule, ad_u, _)]])) I hA (kn_pl1 _ _) (kn_pl2 _ _) (kn_pl1_ok _ _) (kn_pl2_ok _ _) (kn_pl2_nd _ _) (kn_pl_dis _ _) (kn_runV (As := [.ref (Z.1 3)]) S0 hK hZ hA I ((ctX2_takeWord e_r_0 h).met _) (kn_cwV 1 hts q3_63 q3_64 q3_65 q1_3 q3_66 rfl rfl (by decide +kernel) ⟨(Nat.le_trans (m := 20) (Nat.le_of_ble_eq_true rfl) (Nat.le_add_left _ _)), (Nat.le_trans (m := 400) (Nat.le_of_ble_eq_true rfl) (Nat.le_add_left _ _))⟩) (kn_pl1 _ _) (kn_pl1_ok _ _) (kn_pl1_nd _ _) 0 rfl rfl rfl rfl hl.1 rfl (Nat.le_of_ble_eq_true rfl) (kn_dec tX4_readTest 25 rfl) ⟨(Nat.le_of_ble_eq_true rfl), (Nat.le_of_ble_eq_true rfl)⟩) (fun r2 u3 H locs h I => ?_)
  obtain ⟨hz_r2, h⟩ := h
  have I : kn_I D tc (kn_A w0 s.heap.size) s.heap (List.flatten [[(kRuleReader, ad_q, _)], [(kReader, ad_r, _)], [(kRule, ad_u, _)], [(kTin, ad_t, _)]]) _ _ := I.perm (kn_segB (sC := [[(kRuleReader, ad_q, _)], [(kRule, ad_u, _)]]) (sR := [[(kReader, ad_r, _)], [(kTin, ad_t, _)]]) (segs := [[(kRuleReader, ad_q, _)], [(kReader, ad_r, _)], [(kRule, ad_u, _)], [(kTin, ad_t, _)]]) [0, 2, 1, 3] rfl rfl)
  have I : kn_I D tc (kn_A w0 s.heap.size) s.heap [(kRuleReader, ad_q, _), (kReader, ad_r, _), (kRule, ad_u, _), (kTin, ad_t, _)] _ _ := I
  refine lv_istore_n (lv' := [(3, .int _), (0, .ref (ad_q 0)), (1, .int _), (2, .int _), (4, .int _)]) hx hb (kn_dec tX4_readTest 26 rfl) rfl hl (by decide) rfl (fun ls hl => ?_)
  refine lv_iload_n hx hb (kn_dec tX4_readTest 27 rfl) rfl (lv_at hl 0 rfl) ?_
  refine lv_if_ne (tgt := 85) hx hb (kn_dec tX4_readTest 28 rfl) (by decide) (fun c4 => ?_) (fun c4 => ?_)
  · have h := h.1 c4
    refine kw_iinc (lvf := fun y => [(4, .int y), (3, .int _), (0, .ref (ad_q 0)), (1, .int _), (2, .int _)]) (nv := (1)) hx hb (kn_dec tX4_readTest 43 rfl) hl (k := 4) rfl (by decide) (by decide) (fun _ => rfl) (fun x5 ex5 ls hl => ?_)
    have h := h x5 ex5
    refine lv_goto (tgt := 7) hx hb (kn_dec tX4_readTest 44 rfl) (by decide) ?_
    exact hK7 _ _ _ _ _ _ _ _ _ _ hz_y2 hz_r2 I (lv_sub hl [2, 3, 4, 1, 0] rfl) h
  · have h := h.2 c4
    refine lv_iload_n hx hb (kn_dec tX4_readTest 29 rfl) rfl (lv_at hl 3 rfl) ?_
    refine lv_if_eq (tgt := 70) hx hb (kn_dec tX4_readTest 30 rfl) (by decide) (fun c6 => ?_) (fun c6 => ?_)
    · have h := h.1 c6
      exact wX4_readTest_g_b70 X e_r_0 e_q_0 e_q_1 hR0 hR_X4_readTest hR_X4_readFact hK7 _ _ _ _ _ _ _ _ _ hz_r2 I (lv_sub hl [1, 2, 0, 4] rfl) h
    · have h := h.2 c6
      refine lv_aload_n hx hb (kn_dec tX4_readTest 31 rfl) rfl (lv_at hl 1 rfl) ?_
      refine kw_getl hx hb hts inX4 hown hK I 0 rfl rfl 1 (by decide) rfl (hts _ q1_95) (kn_dec tX4_readTest 32 rfl) e_q_1 ?_
      refine lv_bipush (v := (-26)) hx hb (kn_dec tX4_readTest 33 rfl) (by decide) ?_
      have I : kn_I D tc (kn_A w0 s.heap.size) s.heap ([(kRule, ad_u, _)] ++ (List.flatten [[(kRuleReader, ad_q, _)], [(kReader, ad_r, _)], [(kTin, ad_t, _)]])) _ _ := I.perm (kn_segA (segs := [[(kRuleReader, ad_q, _)], [(kReader, ad_r, _)], [(kRule, ad_u, _)], [(kTin, ad_t, _)]]) (sC := [[(kRule, ad_u, _)]]) (sR := [[(kRuleReader, ad_q, _)], [(kReader, ad_r, _)], [(kTin, ad_t, _)]]) [2, 0, 1, 3] rfl rfl)
      refine kw_callv (wc := [(kRule, ad_u, _)]) (wr := (List.flatten [[(kRuleReader, ad_q, _)], [(kReader, ad_r, _)], [(kTin, ad_t, _)]])) I hA (kn_pl1 _ _) (kn_pl2 _ _) (kn_pl1_ok _ _) (kn_pl2_ok _ _) (kn_pl2_nd _ _) (kn_pl_dis _ _) (kn_runV (As := [.int _]) S0 hK hZ hA I ((ctX3_put h).met _) (kn_cwV 1 hts q3_81 q3_82 q3_83 q1_5 q3_84 rfl rfl (by decide +kernel) ⟨(Nat.le_trans (m := 20) (Nat.le_of_ble_eq_true rfl) (Nat.le_add_left _ _)), (Nat.le_trans (m := 400) (Nat.le_of_ble_eq_true rfl) (Nat.le_add_left _ _))⟩) (kn_pl1 _ _) (kn_pl1_ok _ _) (kn_pl1_nd _ _) 0 rfl rfl rfl rfl hl.1 rfl (Nat.le_of_ble_eq_true rfl) (kn_dec tX4_readTest 34 rfl) ⟨(Nat.le_of_ble_eq_true rfl), (Nat.le_of_ble_eq_true rfl)⟩) (fun u8 H locs h I => ?_)
      have I : kn_I D tc (kn_A w0 s.heap.size) s.heap (List.flatten [[(kRuleReader, ad_q, _)], [(kReader, ad_r, _)], [(kRule, ad_u, _)], [(kTin, ad_t, _)]]) _ _ := I.perm (kn_segB (sC := [[(kRuleReader, ad_q, _)], [(kReader, ad_r, _)], [(kTin, ad_t, _)]]) (sR := [[(kRule, ad_u, _)]]) (segs := [[(kRuleReader, ad_q, _)], [(kReader, ad_r, _)], [(kRule, ad_u, _)], [(kTin, ad_t, _)]]) [0, 1, 3, 2] rfl rfl)
      have I : kn_I D tc (kn_A w0 s.heap.size) s.heap [(kRuleReader, ad_q, _), (kReader, ad_r, _), (kRule, ad_u, _), (kTin, ad_t, _)] _ _ := I
      exact wX4_readTest_g_b70 X e_r_0 e_q_0 e_q_1 hR0 hR_X4_readTest hR_X4_readFact hK7 _ _ _ _ _ _ _ _ _ hz_r2 I (lv_sub hl [1, 2, 0, 4] rfl) h
def PX4_readTest_g_L7 (R_X4_readTest : OV → OV → OV → OV → Int32 → (OV → OV → OV → Prop) → Prop) (R_X4_readFact : OV → OV → OV → OV → Int32 → (OV → OV → OV → Prop) → Prop) (v_t : OV)  (post : OV → OV → OV → Prop) : Nat → Int32 → Int32 → Int32 → Int32 → OV → OV → OV → Prop
  | 0, _, _, _, _, _, _, _ => False
  | n + 1, y1, y2, y3, y4, v_q, v_r, v_u => ((((400 : Int32)) ≤ y4 → post v_q v_r v_u) ∧ (¬ ((400 : Int32)) ≤ y4 → ((¬ (v_r.1 3) = ((0 : Int32)) → post v_q v_r v_u) ∧ ((v_r.1 3) = ((0 : Int32)) → (R_X4_readFact v_q v_r v_u v_t y1 (fun v_q3 v_r4 v_u5 => ((y3 = ((0 : Int32)) → PX4_readTest_g_b43 R_X4_readTest R_X4_readFact v_t (PX4_readTest_g_L7 R_X4_readTest R_X4_readFact v_t post n) post y1 y2 y4 v_q3 v_r4 v_u5) ∧ (¬ y3 = ((0 : Int32)) → (PX3_put v_u5 ((-25 : Int32)) (fun v_u8 => PX4_readTest_g_b43 R_X4_readTest R_X4_readFact v_t (PX4_readTest_g_L7 R_X4_readTest R_X4_readFact v_t post n) post y1 y2 y4 v_q3 v_r4 v_u8))))))))))
set_option maxRecDepth 100000 in
set_option maxHeartbeats 1000000 in
theorem wX4_readTest_g_L7 {R_X4_readTest : OV → OV → OV → OV → Int32 → (OV → OV → OV → Prop) → Prop} {R_X4_readFact : OV → OV → OV → OV → Int32 → (OV → OV → OV → Prop) → Prop} {v_t : OV}  {post : OV → OV → OV → Prop} {ad_q : Nat → Nat} {ad_r : Nat → Nat} {ad_u : Nat → Nat} {ad_t : Nat → Nat} (X : kn_X p s m args meth c cX4_readTest 5 none RX4 kn_all D tc Z (kn_A w0 s.heap.size)) (e_r_0 : ad_r (0 + 1) = ad_t (0 + 1)) (e_q_0 : ad_q (0 + 1) = ad_r 0) (e_q_1 : ad_q (1 + 1) = ad_u 0) {rmR : Room} (hR0 : rmR.cells = 0 ∧ rmR.slots = 0) (hR_X4_readTest : ∀ {ad_q : Nat → Nat} {ad_r : Nat → Nat} {ad_u : Nat → Nat} {ad_t : Nat → Nat} (e_r_0 : ad_r (0 + 1) = ad_t (0 + 1)) (e_q_0 : ad_q (0 + 1) = ad_r 0) (e_q_1 : ad_q (1 + 1) = ad_u 0) {v_q : OV} {v_r : OV} {v_u : OV} {v_t : OV} {a1 : Int32} {post : OV → OV → OV → Prop}, R_X4_readTest v_q v_r v_u v_t a1 post → CTv l D tc Z yX4_readTest (Cond.code yX4_readTest cX4_readTest 5 none :: kn_all) rmR 0 0 [.ref (ad_q 0), .int a1] [(kRuleReader, ad_q, v_q), (kReader, ad_r, v_r), (kRule, ad_u, v_u), (kTin, ad_t, v_t)] (fun (u : OV × OV × OV) => [(kRuleReader, ad_q, u.1), (kReader, ad_r, u.2.1), (kRule, ad_u, u.2.2), (kTin, ad_t, v_t)]) (fun (u : OV × OV × OV) => post u.1 u.2.1 u.2.2)) (hR_X4_readFact : ∀ {ad_q : Nat → Nat} {ad_r : Nat → Nat} {ad_u : Nat → Nat} {ad_t : Nat → Nat} (e_r_0 : ad_r (0 + 1) = ad_t (0 + 1)) (e_q_0 : ad_q (0 + 1) = ad_r 0) (e_q_1 : ad_q (1 + 1) = ad_u 0) {v_q : OV} {v_r : OV} {v_u : OV} {v_t : OV} {a1 : Int32} {post : OV → OV → OV → Prop}, R_X4_readFact v_q v_r v_u v_t a1 post → CTv l D tc Z yX4_readFact (Cond.code yX4_readFact cX4_readFact 5 none :: kn_all) rmR 0 0 [.ref (ad_q 0), .int a1] [(kRuleReader, ad_q, v_q), (kReader, ad_r, v_r), (kRule, ad_u, v_u), (kTin, ad_t, v_t)] (fun (u : OV × OV × OV) => [(kRuleReader, ad_q, u.1), (kReader, ad_r, u.2.1), (kRule, ad_u, u.2.2), (kTin, ad_t, v_t)]) (fun (u : OV × OV × OV) => post u.1 u.2.1 u.2.2))  : ∀ n : Nat, ∀ (H : Heap) (locs : List Loc) (ls : Array Slot) (y1 : Int32) (y2 : Int32) (y3 : Int32) (y4 : Int32) (v_q : OV) (v_r : OV) (v_u : OV), (hz_y2 : y2 = 0 ∨ y2 = 1) → (hz_y3 : y3 = 0 ∨ y3 = 1) → kn_I D tc (kn_A w0 s.heap.size) s.heap [(kRuleReader, ad_q, v_q), (kReader, ad_r, v_r), (kRule, ad_u, v_u), (kTin, ad_t, v_t)] H locs → lv_has ls 5 [(0, .ref (ad_q 0)), (1, .int y1), (2, .int y2), (3, .int y3), (4, .int y4)] → PX4_readTest_g_L7 R_X4_readTest R_X4_readFact v_t post n y1 y2 y3 y4 v_q v_r v_u → W p l e (rmS rmR) s m args below meth c H locs 0 0 (kn_Qv D tc w0 (fun (u : OV × OV × OV) => [(kRuleReader, ad_q, u.1), (kReader, ad_r, u.2.1), (kRule, ad_u, u.2.2), (kTin, ad_t, v_t)]) (fun (u : OV × OV × OV) => post u.1 u.2.1 u.2.2) below args s 0 0) (F0 m 7 ls []) := by
  obtain ⟨S0, hr, hlocks, hK, hZ, hA⟩ := id X
  obtain ⟨hx, hb, hml, hown, hts⟩ := id S0
  intro n
  induction n with
  | zero =>
    intro H locs ls y1 y2 y3 y4 v_q v_r v_u hz_y2 hz_y3 I hl h
    unfold PX4_readTest_g_L7 at h
    exact h.elim
  | succ n ih =>
    intro H locs ls y1 y2 y3 y4 v_q v_r v_u hz_y2 hz_y3 I hl h
    unfold PX4_readTest_g_L7 at h
    refine lv_iload hx hb (kn_dec tX4_readTest 6 rfl) (lv_at hl 4 rfl) ?_
    refine lv_sipush (v := (400)) hx hb (kn_dec tX4_readTest 7 rfl) (by decide) ?_
    refine lv_icmp_ge (tgt := 91) hx hb (kn_dec tX4_readTest 8 rfl) (by decide) (fun c1 => ?_) (fun c1 => ?_)
    · have h := h.1 c1
      exact kw_vret hx hb hr hlocks I (v_q, v_r, v_u) rfl h (kn_dec tX4_readTest 45 rfl)
    · have h := h.2 c1
      refine lv_aload_n hx hb (kn_dec tX4_readTest 9 rfl) rfl (lv_at hl 0 rfl) ?_
      refine kw_getl hx hb hts inX4 hown hK I 0 rfl rfl 0 (by decide) rfl (hts _ q1_94) (kn_dec tX4_readTest 10 rfl) e_q_0 ?_
      refine kw_geti hx hb hts inX2 hown hK I 1 rfl rfl 3 (by decide) rfl (hts _ q1_45) (kn_dec tX4_readTest 11 rfl) ?_
      refine lv_if_ne (tgt := 91) hx hb (kn_dec tX4_readTest 12 rfl) (by decide) (fun c2 => ?_) (fun c2 => ?_)
      · have h := h.1 c2
        exact kw_vret hx hb hr hlocks I (v_q, v_r, v_u) rfl h (kn_dec tX4_readTest 45 rfl)
      · have h := h.2 c2
        refine lv_aload_n hx hb (kn_dec tX4_readTest 13 rfl) rfl (lv_at hl 0 rfl) ?_
        refine lv_iload_n hx hb (kn_dec tX4_readTest 14 rfl) rfl (lv_at hl 1 rfl) ?_
        have I : kn_I D tc (kn_A w0 s.heap.size) s.heap ([(kRuleReader, ad_q, _), (kReader, ad_r, _), (kRule, ad_u, _), (kTin, ad_t, _)] ++ (List.flatten [])) _ _ := I.perm (kn_segA (segs := [[(kRuleReader, ad_q, _)], [(kReader, ad_r, _)], [(kRule, ad_u, _)], [(kTin, ad_t, _)]]) (sC := [[(kRuleReader, ad_q, _)], [(kReader, ad_r, _)], [(kRule, ad_u, _)], [(kTin, ad_t, _)]]) (sR := []) [0, 1, 2, 3] rfl rfl)
        refine kw_callv (wc := [(kRuleReader, ad_q, _), (kReader, ad_r, _), (kRule, ad_u, _), (kTin, ad_t, _)]) (wr := (List.flatten [])) I hA (kn_pl1 _ _) (kn_pl2 _ _) (kn_pl1_ok _ _) (kn_pl2_ok _ _) (kn_pl2_nd _ _) (kn_pl_dis _ _) (kn_runV (As := [.int _]) S0 hK hZ hA I ((hR_X4_readFact e_r_0 e_q_0 e_q_1 h).met _) (kn_cwV 1 hts q3_106 q3_108 q0_10 q1_4 q3_109 hR0.1 hR0.2 (by decide +kernel) ⟨(Nat.add_le_add_left (Nat.le_of_ble_eq_true rfl) _), (Nat.le_trans (Nat.le_of_eq (Nat.add_comm _ _)) (Nat.add_le_add_left (Nat.le_of_ble_eq_true rfl) _))⟩) (kn_pl1 _ _) (kn_pl1_ok _ _) (kn_pl1_nd _ _) 0 rfl rfl rfl rfl hl.1 rfl (Nat.le_of_ble_eq_true rfl) (kn_dec tX4_readTest 15 rfl) ⟨(Nat.le_of_ble_eq_true rfl), (Nat.le_of_ble_eq_true rfl)⟩) (fun u6 H locs h I => ?_)
        have I : kn_I D tc (kn_A w0 s.heap.size) s.heap (List.flatten [[(kRuleReader, ad_q, _)], [(kReader, ad_r, _)], [(kRule, ad_u, _)], [(kTin, ad_t, _)]]) _ _ := I.perm (kn_segB (sC := []) (sR := [[(kRuleReader, ad_q, _)], [(kReader, ad_r, _)], [(kRule, ad_u, _)], [(kTin, ad_t, _)]]) (segs := [[(kRuleReader, ad_q, _)], [(kReader, ad_r, _)], [(kRule, ad_u, _)], [(kTin, ad_t, _)]]) [0, 1, 2, 3] rfl rfl)
        have I : kn_I D tc (kn_A w0 s.heap.size) s.heap [(kRuleReader, ad_q, _), (kReader, ad_r, _), (kRule, ad_u, _), (kTin, ad_t, _)] _ _ := I
        refine lv_iload_n hx hb (kn_dec tX4_readTest 16 rfl) rfl (lv_at hl 3 rfl) ?_
        refine lv_if_eq (tgt := 43) hx hb (kn_dec tX4_readTest 17 rfl) (by decide) (fun c7 => ?_) (fun c7 => ?_)
        · have h := h.1 c7
          exact wX4_readTest_g_b43 X e_r_0 e_q_0 e_q_1 hR0 hR_X4_readTest hR_X4_readFact ih _ _ _ _ _ _ _ _ _ hz_y2 I (lv_sub hl [0, 1, 2, 4] rfl) h
        · have h := h.2 c7
          refine lv_aload_n hx hb (kn_dec tX4_readTest 18 rfl) rfl (lv_at hl 0 rfl) ?_
          refine kw_getl hx hb hts inX4 hown hK I 0 rfl rfl 1 (by decide) rfl (hts _ q1_95) (kn_dec tX4_readTest 19 rfl) e_q_1 ?_
          refine lv_bipush (v := (-25)) hx hb (kn_dec tX4_readTest 20 rfl) (by decide) ?_
          have I : kn_I D tc (kn_A w0 s.heap.size) s.heap ([(kRule, ad_u, _)] ++ (List.flatten [[(kRuleReader, ad_q, _)], [(kReader, ad_r, _)], [(kTin, ad_t, _)]])) _ _ := I.perm (kn_segA (segs := [[(kRuleReader, ad_q, _)], [(kReader, ad_r, _)], [(kRule, ad_u, _)], [(kTin, ad_t, _)]]) (sC := [[(kRule, ad_u, _)]]) (sR := [[(kRuleReader, ad_q, _)], [(kReader, ad_r, _)], [(kTin, ad_t, _)]]) [2, 0, 1, 3] rfl rfl)
          refine kw_callv (wc := [(kRule, ad_u, _)]) (wr := (List.flatten [[(kRuleReader, ad_q, _)], [(kReader, ad_r, _)], [(kTin, ad_t, _)]])) I hA (kn_pl1 _ _) (kn_pl2 _ _) (kn_pl1_ok _ _) (kn_pl2_ok _ _) (kn_pl2_nd _ _) (kn_pl_dis _ _) (kn_runV (As := [.int _]) S0 hK hZ hA I ((ctX3_put h).met _) (kn_cwV 1 hts q3_81 q3_82 q3_83 q1_5 q3_84 rfl rfl (by decide +kernel) ⟨(Nat.le_trans (m := 20) (Nat.le_of_ble_eq_true rfl) (Nat.le_add_left _ _)), (Nat.le_trans (m := 400) (Nat.le_of_ble_eq_true rfl) (Nat.le_add_left _ _))⟩) (kn_pl1 _ _) (kn_pl1_ok _ _) (kn_pl1_nd _ _) 0 rfl rfl rfl rfl hl.1 rfl (Nat.le_of_ble_eq_true rfl) (kn_dec tX4_readTest 21 rfl) ⟨(Nat.le_of_ble_eq_true rfl), (Nat.le_of_ble_eq_true rfl)⟩) (fun u9 H locs h I => ?_)
          have I : kn_I D tc (kn_A w0 s.heap.size) s.heap (List.flatten [[(kRuleReader, ad_q, _)], [(kReader, ad_r, _)], [(kRule, ad_u, _)], [(kTin, ad_t, _)]]) _ _ := I.perm (kn_segB (sC := [[(kRuleReader, ad_q, _)], [(kReader, ad_r, _)], [(kTin, ad_t, _)]]) (sR := [[(kRule, ad_u, _)]]) (segs := [[(kRuleReader, ad_q, _)], [(kReader, ad_r, _)], [(kRule, ad_u, _)], [(kTin, ad_t, _)]]) [0, 1, 3, 2] rfl rfl)
          have I : kn_I D tc (kn_A w0 s.heap.size) s.heap [(kRuleReader, ad_q, _), (kReader, ad_r, _), (kRule, ad_u, _), (kTin, ad_t, _)] _ _ := I
          exact wX4_readTest_g_b43 X e_r_0 e_q_0 e_q_1 hR0 hR_X4_readTest hR_X4_readFact ih _ _ _ _ _ _ _ _ _ hz_y2 I (lv_sub hl [0, 1, 2, 4] rfl) h
def PX4_readTest_g (R_X4_readTest : OV → OV → OV → OV → Int32 → (OV → OV → OV → Prop) → Prop) (R_X4_readFact : OV → OV → OV → OV → Int32 → (OV → OV → OV → Prop) → Prop) (v_q : OV) (v_r : OV) (v_u : OV) (v_t : OV) (a1 : Int32) (post : OV → OV → OV → Prop) : Prop := (∃ n1 : Nat, PX4_readTest_g_L7 R_X4_readTest R_X4_readFact v_t post n1 a1 ((0 : Int32)) ((0 : Int32)) ((0 : Int32)) v_q v_r v_u)
set_option maxRecDepth 100000 in
set_option maxHeartbeats 1000000 in
theorem ctX4_readTest_g {l : Launch} {D : va_G} {tc : Nat → ClassId} {Z : (Nat → Nat) × (Nat → Nat)} {R_X4_readTest : OV → OV → OV → OV → Int32 → (OV → OV → OV → Prop) → Prop} {R_X4_readFact : OV → OV → OV → OV → Int32 → (OV → OV → OV → Prop) → Prop} {ad_q : Nat → Nat} {ad_r : Nat → Nat} {ad_u : Nat → Nat} {ad_t : Nat → Nat} {v_q : OV} {v_r : OV} {v_u : OV} {v_t : OV} {a1 : Int32} (e_r_0 : ad_r (0 + 1) = ad_t (0 + 1)) (e_q_0 : ad_q (0 + 1) = ad_r 0) (e_q_1 : ad_q (1 + 1) = ad_u 0) {rmR : Room} (hR0 : rmR.cells = 0 ∧ rmR.slots = 0) (hR_X4_readTest : ∀ {ad_q : Nat → Nat} {ad_r : Nat → Nat} {ad_u : Nat → Nat} {ad_t : Nat → Nat} (e_r_0 : ad_r (0 + 1) = ad_t (0 + 1)) (e_q_0 : ad_q (0 + 1) = ad_r 0) (e_q_1 : ad_q (1 + 1) = ad_u 0) {v_q : OV} {v_r : OV} {v_u : OV} {v_t : OV} {a1 : Int32} {post : OV → OV → OV → Prop}, R_X4_readTest v_q v_r v_u v_t a1 post → CTv l D tc Z yX4_readTest (Cond.code yX4_readTest cX4_readTest 5 none :: kn_all) rmR 0 0 [.ref (ad_q 0), .int a1] [(kRuleReader, ad_q, v_q), (kReader, ad_r, v_r), (kRule, ad_u, v_u), (kTin, ad_t, v_t)] (fun (u : OV × OV × OV) => [(kRuleReader, ad_q, u.1), (kReader, ad_r, u.2.1), (kRule, ad_u, u.2.2), (kTin, ad_t, v_t)]) (fun (u : OV × OV × OV) => post u.1 u.2.1 u.2.2)) (hR_X4_readFact : ∀ {ad_q : Nat → Nat} {ad_r : Nat → Nat} {ad_u : Nat → Nat} {ad_t : Nat → Nat} (e_r_0 : ad_r (0 + 1) = ad_t (0 + 1)) (e_q_0 : ad_q (0 + 1) = ad_r 0) (e_q_1 : ad_q (1 + 1) = ad_u 0) {v_q : OV} {v_r : OV} {v_u : OV} {v_t : OV} {a1 : Int32} {post : OV → OV → OV → Prop}, R_X4_readFact v_q v_r v_u v_t a1 post → CTv l D tc Z yX4_readFact (Cond.code yX4_readFact cX4_readFact 5 none :: kn_all) rmR 0 0 [.ref (ad_q 0), .int a1] [(kRuleReader, ad_q, v_q), (kReader, ad_r, v_r), (kRule, ad_u, v_u), (kTin, ad_t, v_t)] (fun (u : OV × OV × OV) => [(kRuleReader, ad_q, u.1), (kReader, ad_r, u.2.1), (kRule, ad_u, u.2.2), (kTin, ad_t, v_t)]) (fun (u : OV × OV × OV) => post u.1 u.2.1 u.2.2))  {post : OV → OV → OV → Prop} (h : PX4_readTest_g R_X4_readTest R_X4_readFact v_q v_r v_u v_t a1 post) : CTv l D tc Z yX4_readTest (Cond.code yX4_readTest cX4_readTest 5 none :: kn_all) (rmS rmR) 0 0 [.ref (ad_q 0), .int a1] [(kRuleReader, ad_q, v_q), (kReader, ad_r, v_r), (kRule, ad_u, v_u), (kTin, ad_t, v_t)] (fun (u : OV × OV × OV) => [(kRuleReader, ad_q, u.1), (kReader, ad_r, u.2.1), (kRule, ad_u, u.2.2), (kTin, ad_t, v_t)]) (fun (u : OV × OV × OV) => post u.1 u.2.1 u.2.2) := by
  refine kn_ofv (cc := cX4_readTest) (nL := 5) (ret := none) (lv := [(0, .ref (ad_q 0)), (1, .int a1)]) (by decide) (Nat.le_of_ble_eq_true rfl) rfl (fun p e s m below meth c ls X I hl _ => ?_)
  obtain ⟨S0, hr, hlocks, hK, hZ, hA⟩ := id X
  obtain ⟨hx, hb, hml, hown, hts⟩ := id S0
  unfold PX4_readTest_g at h
  refine lv_iconst (v := (0)) hx hb (kn_dec tX4_readTest 0 rfl) (by decide) ?_
  refine lv_istore_n (lv' := [(2, .int _), (0, .ref (ad_q 0)), (1, .int _)]) hx hb (kn_dec tX4_readTest 1 rfl) rfl hl (by decide) rfl (fun ls hl => ?_)
  refine lv_iconst (v := (0)) hx hb (kn_dec tX4_readTest 2 rfl) (by decide) ?_
  refine lv_istore_n (lv' := [(3, .int _), (2, .int _), (0, .ref (ad_q 0)), (1, .int _)]) hx hb (kn_dec tX4_readTest 3 rfl) rfl hl (by decide) rfl (fun ls hl => ?_)
  refine lv_iconst (v := (0)) hx hb (kn_dec tX4_readTest 4 rfl) (by decide) ?_
  refine lv_istore (lv' := [(4, .int _), (3, .int _), (2, .int _), (0, .ref (ad_q 0)), (1, .int _)]) hx hb (kn_dec tX4_readTest 5 rfl) hl (by decide) rfl (fun ls hl => ?_)
  obtain ⟨n1, h⟩ := h
  exact wX4_readTest_g_L7 X e_r_0 e_q_0 e_q_1 hR0 hR_X4_readTest hR_X4_readFact n1 _ _ _ _ _ _ _ _ _ _ (Or.inl rfl) (Or.inl rfl) I (lv_sub hl [3, 4, 2, 1, 0] rfl) h
/-- the group by depth -/
def RX4_readTest : Nat → (OV → OV → OV → OV → Int32 → (OV → OV → OV → Prop) → Prop) × (OV → OV → OV → OV → Int32 → (OV → OV → OV → Prop) → Prop)
  | 0 => (fun _ _ _ _ _ _ => False, fun _ _ _ _ _ _ => False)
  | n + 1 => (PX4_readTest_g (RX4_readTest n).1 (RX4_readTest n).2, PX4_readFact_g (RX4_readTest n).1 (RX4_readTest n).2)
def rmRX4_readTest : Nat → Room
  | 0 => { frames := 0, cells := 0, slots := 0, locals := 0 }
  | n + 1 => rmS (rmRX4_readTest n)
theorem rmRX4_readTest_0 (n : Nat) : (rmRX4_readTest n).cells = 0 ∧ (rmRX4_readTest n).slots = 0 := by
  cases n <;> exact ⟨rfl, rfl⟩
theorem allRX4_readTest {l : Launch} {D : va_G} {tc : Nat → ClassId} {Z : (Nat → Nat) × (Nat → Nat)} : ∀ n : Nat, (∀ {ad_q : Nat → Nat} {ad_r : Nat → Nat} {ad_u : Nat → Nat} {ad_t : Nat → Nat} (e_r_0 : ad_r (0 + 1) = ad_t (0 + 1)) (e_q_0 : ad_q (0 + 1) = ad_r 0) (e_q_1 : ad_q (1 + 1) = ad_u 0) {v_q : OV} {v_r : OV} {v_u : OV} {v_t : OV} {a1 : Int32} {post : OV → OV → OV → Prop}, (RX4_readTest n).1 v_q v_r v_u v_t a1 post → CTv l D tc Z yX4_readTest (Cond.code yX4_readTest cX4_readTest 5 none :: kn_all) (rmRX4_readTest n) 0 0 [.ref (ad_q 0), .int a1] [(kRuleReader, ad_q, v_q), (kReader, ad_r, v_r), (kRule, ad_u, v_u), (kTin, ad_t, v_t)] (fun (u : OV × OV × OV) => [(kRuleReader, ad_q, u.1), (kReader, ad_r, u.2.1), (kRule, ad_u, u.2.2), (kTin, ad_t, v_t)]) (fun (u : OV × OV × OV) => post u.1 u.2.1 u.2.2)) ∧ (∀ {ad_q : Nat → Nat} {ad_r : Nat → Nat} {ad_u : Nat → Nat} {ad_t : Nat → Nat} (e_r_0 : ad_r (0 + 1) = ad_t (0 + 1)) (e_q_0 : ad_q (0 + 1) = ad_r 0) (e_q_1 : ad_q (1 + 1) = ad_u 0) {v_q : OV} {v_r : OV} {v_u : OV} {v_t : OV} {a1 : Int32} {post : OV → OV → OV → Prop}, (RX4_readTest n).2 v_q v_r v_u v_t a1 post → CTv l D tc Z yX4_readFact (Cond.code yX4_readFact cX4_readFact 5 none :: kn_all) (rmRX4_readTest n) 0 0 [.ref (ad_q 0), .int a1] [(kRuleReader, ad_q, v_q), (kReader, ad_r, v_r), (kRule, ad_u, v_u), (kTin, ad_t, v_t)] (fun (u : OV × OV × OV) => [(kRuleReader, ad_q, u.1), (kReader, ad_r, u.2.1), (kRule, ad_u, u.2.2), (kTin, ad_t, v_t)]) (fun (u : OV × OV × OV) => post u.1 u.2.1 u.2.2))
  | 0 => ⟨(by intro _ _ _ _ e_r_0 e_q_0 e_q_1 _ _ _ _ _ _ h; exact False.elim h), (by intro _ _ _ _ e_r_0 e_q_0 e_q_1 _ _ _ _ _ _ h; exact False.elim h)⟩
  | n + 1 => ⟨(by intro _ _ _ _ e_r_0 e_q_0 e_q_1 _ _ _ _ _ _ h; exact ctX4_readTest_g e_r_0 e_q_0 e_q_1 (rmRX4_readTest_0 n) (allRX4_readTest n).1 (allRX4_readTest n).2 h), (by intro _ _ _ _ e_r_0 e_q_0 e_q_1 _ _ _ _ _ _ h; exact ctX4_readFact_g e_r_0 e_q_0 e_q_1 (rmRX4_readTest_0 n) (allRX4_readTest n).1 (allRX4_readTest n).2 h)⟩
abbrev rmX4_readTest : Room := rmRX4_readTest 30
def PX4_readTest (v_q : OV) (v_r : OV) (v_u : OV) (v_t : OV) (a1 : Int32) (post : OV → OV → OV → Prop) : Prop := (RX4_readTest 30).1 v_q v_r v_u v_t a1 post
theorem ctX4_readTest {l : Launch} {D : va_G} {tc : Nat → ClassId} {Z : (Nat → Nat) × (Nat → Nat)} {ad_q : Nat → Nat} {ad_r : Nat → Nat} {ad_u : Nat → Nat} {ad_t : Nat → Nat} {v_q : OV} {v_r : OV} {v_u : OV} {v_t : OV} {a1 : Int32} (e_r_0 : ad_r (0 + 1) = ad_t (0 + 1)) (e_q_0 : ad_q (0 + 1) = ad_r 0) (e_q_1 : ad_q (1 + 1) = ad_u 0) {post : OV → OV → OV → Prop} (h : PX4_readTest v_q v_r v_u v_t a1 post) : CTv l D tc Z yX4_readTest (Cond.code yX4_readTest cX4_readTest 5 none :: kn_all) rmX4_readTest 0 0 [.ref (ad_q 0), .int a1] [(kRuleReader, ad_q, v_q), (kReader, ad_r, v_r), (kRule, ad_u, v_u), (kTin, ad_t, v_t)] (fun (u : OV × OV × OV) => [(kRuleReader, ad_q, u.1), (kReader, ad_r, u.2.1), (kRule, ad_u, u.2.2), (kTin, ad_t, v_t)]) (fun (u : OV × OV × OV) => post u.1 u.2.1 u.2.2) := (allRX4_readTest 30).1 e_r_0 e_q_0 e_q_1 h
abbrev rmX4_readFact : Room := rmRX4_readTest 30
def PX4_readFact (v_q : OV) (v_r : OV) (v_u : OV) (v_t : OV) (a1 : Int32) (post : OV → OV → OV → Prop) : Prop := (RX4_readTest 30).2 v_q v_r v_u v_t a1 post
theorem ctX4_readFact {l : Launch} {D : va_G} {tc : Nat → ClassId} {Z : (Nat → Nat) × (Nat → Nat)} {ad_q : Nat → Nat} {ad_r : Nat → Nat} {ad_u : Nat → Nat} {ad_t : Nat → Nat} {v_q : OV} {v_r : OV} {v_u : OV} {v_t : OV} {a1 : Int32} (e_r_0 : ad_r (0 + 1) = ad_t (0 + 1)) (e_q_0 : ad_q (0 + 1) = ad_r 0) (e_q_1 : ad_q (1 + 1) = ad_u 0) {post : OV → OV → OV → Prop} (h : PX4_readFact v_q v_r v_u v_t a1 post) : CTv l D tc Z yX4_readFact (Cond.code yX4_readFact cX4_readFact 5 none :: kn_all) rmX4_readFact 0 0 [.ref (ad_q 0), .int a1] [(kRuleReader, ad_q, v_q), (kReader, ad_r, v_r), (kRule, ad_u, v_u), (kTin, ad_t, v_t)] (fun (u : OV × OV × OV) => [(kRuleReader, ad_q, u.1), (kReader, ad_r, u.2.1), (kRule, ad_u, u.2.2), (kTin, ad_t, v_t)]) (fun (u : OV × OV × OV) => post u.1 u.2.1 u.2.2) := (allRX4_readTest 30).2 e_r_0 e_q_0 e_q_1 h

end
