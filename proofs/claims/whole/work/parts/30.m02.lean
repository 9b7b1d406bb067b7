section
variable {p : Program} {l : Launch} {e : Env} {s : State} {m : MethodId} {args : Array Value} {below : List Frame} {meth : Method} {c : Code} {D : va_G} {tc : Nat → ClassId} {Z : (Nat → Nat) × (Nat → Nat)} {w0 : List CH}

/-! X9_answer -/
abbrev rmX9_answer : Room := { frames := 2, cells := 0, slots := 0, locals := 44 }
def PX9_answer_b53  (K6 : Int32 → Int32 → Int32 → Int32 → OV → Prop) (post : Int64 → OV → Prop) (y1 : Int32) (y3 : Int32) (y4 : Int32) (y5 : Int32) (y6 : Int32) (y7 : Int32) (v_m : OV) : Prop := ((¬ y6 = ((0 : Int32)) → (vp_in y7 14 ∧ (∀ x3 : Int64, x3 = (v_m.2.2 48 y7.toNatClampNeg) → (vp_in y4 300 ∧ (∀ v_m5 : OV, v_m5 = sl v_m 49 (vp_updL (v_m.2.2 49) y4.toNatClampNeg x3) → (∀ x6 : Int32, x6 = y4 + (1 : Int32) → (∀ x7 : Int32, x7 = y5 + (1 : Int32) → K6 y1 y3 x6 x7 v_m5))))))) ∧ (y6 = ((0 : Int32)) → (∀ x8 : Int64, x8 = (y7.toInt64) → (vp_in y4 300 ∧ (∀ v_m10 : OV, v_m10 = sl v_m 49 (vp_updL (v_m.2.2 49) y4.toNatClampNeg x8) → (∀ x11 : Int32, x11 = y4 + (1 : Int32) → (∀ x12 : Int32, x12 = y5 + (1 : Int32) → K6 y1 y3 x11 x12 v_m10)))))))
set_option maxRecDepth 100000 in
set_option maxHeartbeats 1000000 in
theorem wX9_answer_b53  {K6 : Int32 → Int32 → Int32 → Int32 → OV → Prop} {post : Int64 → OV → Prop} {ad_m : Nat → Nat} (X : kn_X p s m args meth c cX9_answer 8 (some .long) RX9 kn_all D tc Z (kn_A w0 s.heap.size))   (hK6 : ∀ (H : Heap) (locs : List Loc) (ls : Array Slot) (y1 : Int32) (y3 : Int32) (y4 : Int32) (y5 : Int32) (v_m : OV), kn_I D tc (kn_A w0 s.heap.size) s.heap [(kModel, ad_m, v_m)] H locs → lv_has ls 8 [(0, .ref (ad_m 0)), (1, .int y1), (3, .int y3), (4, .int y4), (5, .int y5)] → K6 y1 y3 y4 y5 v_m → W p l e rmX9_answer s m args below meth c H locs 0 0 (kn_Ql D tc w0 (fun (u : OV) => [(kModel, ad_m, u)]) (fun (r : Int64) (u : OV) => post r u) below args s 0 0) (F0 m 6 ls [])) : ∀ (H : Heap) (locs : List Loc) (ls : Array Slot) (y1 : Int32) (y3 : Int32) (y4 : Int32) (y5 : Int32) (y6 : Int32) (y7 : Int32) (v_m : OV), kn_I D tc (kn_A w0 s.heap.size) s.heap [(kModel, ad_m, v_m)] H locs → lv_has ls 8 [(0, .ref (ad_m 0)), (1, .int y1), (3, .int y3), (4, .int y4), (5, .int y5), (6, .int y6), (7, .int y7)] → PX9_answer_b53 K6 post y1 y3 y4 y5 y6 y7 v_m → W p l e rmX9_answer s m args below meth c H locs 0 0 (kn_Ql D tc w0 (fun (u : OV) => [(kModel, ad_m, u)]) (fun (r : Int64) (u : OV) => post r u) below args s 0 0) (F0 m 53 ls []) := by
  obtain ⟨S0, hr, hlocks, hK, hZ, hA⟩ := id X
  obtain ⟨hx, hb, hml, hown, hts⟩ := id S0
  intro H locs ls y1 y3 y4 y5 y6 y7 v_m I hl h
  unfold PX9_answer_b53 at h
  refine lv_aload_n hx hb (kn_dec tX9_answer 30 rfl) rfl (lv_at hl 0 rfl) ?_
  refine kw_getl hx hb hts inX9 hown hK I 0 rfl rfl 49 (by decide) rfl (hts _ q5_9) (kn_dec tX9_answer 31 rfl) rfl ?_
  refine lv_iload hx hb (kn_dec tX9_answer 32 rfl) (lv_at hl 3 rfl) ?_
  refine lv_iload hx hb (kn_dec tX9_answer 33 rfl) (lv_at hl 5 rfl) ?_
  refine lv_if_ne (tgt := 70) hx hb (kn_dec tX9_answer 34 rfl) (by decide) (fun c1 => ?_) (fun c1 => ?_)
  · have h := h.1 c1
    refine lv_aload_n hx hb (kn_dec tX9_answer 38 rfl) rfl (lv_at hl 0 rfl) ?_
    refine kw_getl hx hb hts inX9 hown hK I 0 rfl rfl 48 (by decide) rfl (hts _ q5_8) (kn_dec tX9_answer 39 rfl) rfl ?_
    refine lv_iload hx hb (kn_dec tX9_answer 40 rfl) (lv_at hl 6 rfl) ?_
    obtain ⟨hs2, h⟩ := h
    refine kw_lald hx hb hK I 0 rfl 48 14 (List.mem_of_getElem? (i := 37) rfl) hs2 (kn_dec tX9_answer 41 rfl) ?_
    refine lv_topl (fun x3 ex3 => ?_)
    have h := h x3 ex3
    obtain ⟨hs4, h⟩ := h
    refine kw_last hx hb hK I 0 rfl 49 300 (List.mem_of_getElem? (i := 38) rfl) ukModel_49 hs4 (kn_dec tX9_answer 42 rfl) (fun v_m5 ev_m5 H locs I => ?_)
    have h := h v_m5 ev_m5
    have I : kn_I D tc (kn_A w0 s.heap.size) s.heap [(kModel, ad_m, _)] _ _ := I
    refine kw_iinc (lvf := fun y => [(4, .int y), (0, .ref (ad_m 0)), (1, .int _), (3, .int _), (5, .int _), (6, .int _), (7, .int _)]) (nv := (1)) hx hb (kn_dec tX9_answer 43 rfl) hl (k := 3) rfl (by decide) (by decide) (fun _ => rfl) (fun x6 ex6 ls hl => ?_)
    have h := h x6 ex6
    refine lv_goto (tgt := 147) hx hb (kn_dec tX9_answer 44 rfl) (by decide) ?_
    refine kw_iinc (lvf := fun y => [(5, .int y), (4, .int _), (0, .ref (ad_m 0)), (1, .int _), (3, .int _), (6, .int _), (7, .int _)]) (nv := (1)) hx hb (kn_dec tX9_answer 82 rfl) hl (k := 4) rfl (by decide) (by decide) (fun _ => rfl) (fun x7 ex7 ls hl => ?_)
    have h := h x7 ex7
    refine lv_goto (tgt := 6) hx hb (kn_dec tX9_answer 83 rfl) (by decide) ?_
    exact hK6 _ _ _ _ _ _ _ _  I (lv_sub hl [2, 3, 4, 1, 0] rfl) h
  · have h := h.2 c1
    refine lv_iload hx hb (kn_dec tX9_answer 35 rfl) (lv_at hl 6 rfl) ?_
    refine lv_i2l hx hb (kn_dec tX9_answer 36 rfl) rfl ?_
    refine lv_goto (tgt := 77) hx hb (kn_dec tX9_answer 37 rfl) (by decide) ?_
    refine lv_topl (fun x8 ex8 => ?_)
    have h := h x8 ex8
    obtain ⟨hs9, h⟩ := h
    refine kw_last hx hb hK I 0 rfl 49 300 (List.mem_of_getElem? (i := 38) rfl) ukModel_49 hs9 (kn_dec tX9_answer 42 rfl) (fun v_m10 ev_m10 H locs I => ?_)
    have h := h v_m10 ev_m10
    have I : kn_I D tc (kn_A w0 s.heap.size) s.heap [(kModel, ad_m, _)] _ _ := I
    refine kw_iinc (lvf := fun y => [(4, .int y), (0, .ref (ad_m 0)), (1, .int _), (3, .int _), (5, .int _), (6, .int _), (7, .int _)]) (nv := (1)) hx hb (kn_dec tX9_answer 43 rfl) hl (k := 3) rfl (by decide) (by decide) (fun _ => rfl) (fun x11 ex11 ls hl => ?_)
    have h := h x11 ex11
    refine lv_goto (tgt := 147) hx hb (kn_dec tX9_answer 44 rfl) (by decide) ?_
    refine kw_iinc (lvf := fun y => [(5, .int y), (4, .int _), (0, .ref (ad_m 0)), (1, .int _), (3, .int _), (6, .int _), (7, .int _)]) (nv := (1)) hx hb (kn_dec tX9_answer 82 rfl) hl (k := 4) rfl (by decide) (by decide) (fun _ => rfl) (fun x12 ex12 ls hl => ?_)
    have h := h x12 ex12
    refine lv_goto (tgt := 6) hx hb (kn_dec tX9_answer 83 rfl) (by decide) ?_
    exact hK6 _ _ _ _ _ _ _ _  I (lv_sub hl [2, 3, 4, 1, 0] rfl) h
def PX9_answer_L6   (post : Int64 → OV → Prop) : Nat → Int32 → Int32 → Int32 → Int32 → OV → Prop
  | 0, _, _, _, _, _ => False
  | n + 1, y1, y3, y4, y5, v_m => ((y3 ≤ y5 → post (v_m.2.2 49 ((0 : Int32)).toNatClampNeg) v_m) ∧ (¬ y3 ≤ y5 → (vp_in ((((300 : Int32)) * y1) + y5) 1800 ∧ (∀ x3 : Int32, x3 = (v_m.2.1 41 ((((300 : Int32)) * y1) + y5).toNatClampNeg) → (vp_in ((((300 : Int32)) * y1) + y5) 1800 ∧ (∀ x5 : Int32, x5 = (v_m.2.1 42 ((((300 : Int32)) * y1) + y5).toNatClampNeg) → ((x3 = ((0 : Int32)) → PX9_answer_b53 (PX9_answer_L6 post n) post y1 y3 y4 y5 x3 x5 v_m) ∧ (¬ x3 = ((0 : Int32)) → ((¬ x3 = ((1 : Int32)) → ((¬ x3 = ((9 : Int32)) → (∀ x9 : Int32, x9 = y4 + (-1 : Int32) → (vp_in (x9 - ((1 : Int32))) 300 ∧ (vp_in x9 300 ∧ (PX9_both x3 (v_m.2.2 49 (x9 - ((1 : Int32))).toNatClampNeg) (v_m.2.2 49 x9.toNatClampNeg) (fun r12 => (vp_in (x9 - ((1 : Int32))) 300 ∧ (∀ v_m15 : OV, v_m15 = sl v_m 49 (vp_updL (v_m.2.2 49) (x9 - ((1 : Int32))).toNatClampNeg r12) → (∀ x16 : Int32, x16 = y5 + (1 : Int32) → PX9_answer_L6 post n y1 y3 x9 x16 v_m15))))))))) ∧ (x3 = ((9 : Int32)) → (vp_in (y4 - ((1 : Int32))) 300 ∧ (∀ x18 : Int64, x18 = (((1 : Int64)) - (v_m.2.2 49 (y4 - ((1 : Int32))).toNatClampNeg)) → (vp_in (y4 - ((1 : Int32))) 300 ∧ (∀ v_m20 : OV, v_m20 = sl v_m 49 (vp_updL (v_m.2.2 49) (y4 - ((1 : Int32))).toNatClampNeg x18) → (∀ x21 : Int32, x21 = y5 + (1 : Int32) → PX9_answer_L6 post n y1 y3 y4 x21 v_m20)))))))) ∧ (x3 = ((1 : Int32)) → PX9_answer_b53 (PX9_answer_L6 post n) post y1 y3 y4 y5 x3 x5 v_m))))))))))
set_option maxRecDepth 100000 in
set_option maxHeartbeats 1000000 in
theorem wX9_answer_L6   {post : Int64 → OV → Prop} {ad_m : Nat → Nat} (X : kn_X p s m args meth c cX9_answer 8 (some .long) RX9 kn_all D tc Z (kn_A w0 s.heap.size))    : ∀ n : Nat, ∀ (H : Heap) (locs : List Loc) (ls : Array Slot) (y1 : Int32) (y3 : Int32) (y4 : Int32) (y5 : Int32) (v_m : OV), kn_I D tc (kn_A w0 s.heap.size) s.heap [(kModel, ad_m, v_m)] H locs → lv_has ls 8 [(0, .ref (ad_m 0)), (1, .int y1), (3, .int y3), (4, .int y4), (5, .int y5)] → PX9_answer_L6 post n y1 y3 y4 y5 v_m → W p l e rmX9_answer s m args below meth c H locs 0 0 (kn_Ql D tc w0 (fun (u : OV) => [(kModel, ad_m, u)]) (fun (r : Int64) (u : OV) => post r u) below args s 0 0) (F0 m 6 ls []) := by
  obtain ⟨S0, hr, hlocks, hK, hZ, hA⟩ := id X
  obtain ⟨hx, hb, hml, hown, hts⟩ := id S0
  intro n
  induction n with
  | zero =>
    intro H locs ls y1 y3 y4 y5 v_m I hl h
    unfold PX9_answer_L6 at h
    exact h.elim
  | succ n ih =>
    intro H locs ls y1 y3 y4 y5 v_m I hl h
    unfold PX9_answer_L6 at h
    refine lv_iload hx hb (kn_dec tX9_answer 4 rfl) (lv_at hl 4 rfl) ?_
    refine lv_iload_n hx hb (kn_dec tX9_answer 5 rfl) rfl (lv_at hl 2 rfl) ?_
    refine lv_icmp_ge (tgt := 153) hx hb (kn_dec tX9_answer 6 rfl) (by decide) (fun c1 => ?_) (fun c1 => ?_)
    · have h := h.1 c1
      refine lv_aload_n hx hb (kn_dec tX9_answer 84 rfl) rfl (lv_at hl 0 rfl) ?_
      refine kw_getl hx hb hts inX9 hown hK I 0 rfl rfl 49 (by decide) rfl (hts _ q5_9) (kn_dec tX9_answer 85 rfl) rfl ?_
      refine lv_iconst (v := (0)) hx hb (kn_dec tX9_answer 86 rfl) (by decide) ?_
      refine kw_lald hx hb hK I 0 rfl 49 300 (List.mem_of_getElem? (i := 38) rfl) (by unfold vp_in; decide) (kn_dec tX9_answer 87 rfl) ?_
      exact kw_lret hx hb hr hlocks I _ rfl h (kn_dec tX9_answer 88 rfl)
    · have h := h.2 c1
      refine lv_aload_n hx hb (kn_dec tX9_answer 7 rfl) rfl (lv_at hl 0 rfl) ?_
      refine kw_getl hx hb hts inX9 hown hK I 0 rfl rfl 41 (by decide) rfl (hts _ q5_1) (kn_dec tX9_answer 8 rfl) rfl ?_
      refine lv_sipush (v := (300)) hx hb (kn_dec tX9_answer 9 rfl) (by decide) ?_
      refine lv_iload_n hx hb (kn_dec tX9_answer 10 rfl) rfl (lv_at hl 1 rfl) ?_
      refine lv_imul hx hb (kn_dec tX9_answer 11 rfl) ?_
      refine lv_iload hx hb (kn_dec tX9_answer 12 rfl) (lv_at hl 4 rfl) ?_
      refine lv_iadd hx hb (kn_dec tX9_answer 13 rfl) ?_
      obtain ⟨hs2, h⟩ := h
      refine kw_iald hx hb hK I 0 rfl 41 1800 (List.mem_of_getElem? (i := 30) rfl) hs2 (kn_dec tX9_answer 14 rfl) ?_
      refine lv_topi (fun x3 ex3 => ?_)
      have h := h x3 ex3
      refine lv_istore (lv' := [(6, .int _), (0, .ref (ad_m 0)), (1, .int _), (3, .int _), (4, .int _), (5, .int _)]) hx hb (kn_dec tX9_answer 15 rfl) hl (by decide) rfl (fun ls hl => ?_)
      refine lv_aload_n hx hb (kn_dec tX9_answer 16 rfl) rfl (lv_at hl 1 rfl) ?_
      refine kw_getl hx hb hts inX9 hown hK I 0 rfl rfl 42 (by decide) rfl (hts _ q5_2) (kn_dec tX9_answer 17 rfl) rfl ?_
      refine lv_sipush (v := (300)) hx hb (kn_dec tX9_answer 18 rfl) (by decide) ?_
      refine lv_iload_n hx hb (kn_dec tX9_answer 19 rfl) rfl (lv_at hl 2 rfl) ?_
      refine lv_imul hx hb (kn_dec tX9_answer 20 rfl) ?_
      refine lv_iload hx hb (kn_dec tX9_answer 21 rfl) (lv_at hl 5 rfl) ?_
      refine lv_iadd hx hb (kn_dec tX9_answer 22 rfl) ?_
      obtain ⟨hs4, h⟩ := h
      refine kw_iald hx hb hK I 0 rfl 42 1800 (List.mem_of_getElem? (i := 31) rfl) hs4 (kn_dec tX9_answer 23 rfl) ?_
      refine lv_topi (fun x5 ex5 => ?_)
      have h := h x5 ex5
      refine lv_istore (lv' := [(7, .int _), (6, .int _), (0, .ref (ad_m 0)), (1, .int _), (3, .int _), (4, .int _), (5, .int _)]) hx hb (kn_dec tX9_answer 24 rfl) hl (by decide) rfl (fun ls hl => ?_)
      refine lv_iload hx hb (kn_dec tX9_answer 25 rfl) (lv_at hl 1 rfl) ?_
      refine lv_if_eq (tgt := 53) hx hb (kn_dec tX9_answer 26 rfl) (by decide) (fun c6 => ?_) (fun c6 => ?_)
      · have h := h.1 c6
        exact wX9_answer_b53 X ih _ _ _ _ _ _ _ _ _ _  I (lv_sub hl [2, 3, 4, 5, 6, 1, 0] rfl) h
      · have h := h.2 c6
        refine lv_iload hx hb (kn_dec tX9_answer 27 rfl) (lv_at hl 1 rfl) ?_
        refine lv_iconst (v := (1)) hx hb (kn_dec tX9_answer 28 rfl) (by decide) ?_
        refine lv_icmp_ne (tgt := 84) hx hb (kn_dec tX9_answer 29 rfl) (by decide) (fun c7 => ?_) (fun c7 => ?_)
        · have h := h.1 c7
          refine lv_iload hx hb (kn_dec tX9_answer 45 rfl) (lv_at hl 1 rfl) ?_
          refine lv_bipush (v := (9)) hx hb (kn_dec tX9_answer 46 rfl) (by decide) ?_
          refine lv_icmp_ne (tgt := 114) hx hb (kn_dec tX9_answer 47 rfl) (by decide) (fun c8 => ?_) (fun c8 => ?_)
          · have h := h.1 c8
            refine kw_iinc (lvf := fun y => [(4, .int y), (7, .int _), (6, .int _), (0, .ref (ad_m 0)), (1, .int _), (3, .int _), (5, .int _)]) (nv := (-1)) hx hb (kn_dec tX9_answer 63 rfl) hl (k := 5) rfl (by decide) (by decide) (fun _ => rfl) (fun x9 ex9 ls hl => ?_)
            have h := h x9 ex9
            refine lv_aload_n hx hb (kn_dec tX9_answer 64 rfl) rfl (lv_at hl 3 rfl) ?_
            refine kw_getl hx hb hts inX9 hown hK I 0 rfl rfl 49 (by decide) rfl (hts _ q5_9) (kn_dec tX9_answer 65 rfl) rfl ?_
            refine lv_iload hx hb (kn_dec tX9_answer 66 rfl) (lv_at hl 0 rfl) ?_
            refine lv_iconst (v := (1)) hx hb (kn_dec tX9_answer 67 rfl) (by decide) ?_
            refine lv_isub hx hb (kn_dec tX9_answer 68 rfl) ?_
            refine lv_iload hx hb (kn_dec tX9_answer 69 rfl) (lv_at hl 2 rfl) ?_
            refine lv_aload_n hx hb (kn_dec tX9_answer 70 rfl) rfl (lv_at hl 3 rfl) ?_
            refine kw_getl hx hb hts inX9 hown hK I 0 rfl rfl 49 (by decide) rfl (hts _ q5_9) (kn_dec tX9_answer 71 rfl) rfl ?_
            refine lv_iload hx hb (kn_dec tX9_answer 72 rfl) (lv_at hl 0 rfl) ?_
            refine lv_iconst (v := (1)) hx hb (kn_dec tX9_answer 73 rfl) (by decide) ?_
            refine lv_isub hx hb (kn_dec tX9_answer 74 rfl) ?_
            obtain ⟨hs10, h⟩ := h
            refine kw_lald hx hb hK I 0 rfl 49 300 (List.mem_of_getElem? (i := 38) rfl) hs10 (kn_dec tX9_answer 75 rfl) ?_
            refine lv_aload_n hx hb (kn_dec tX9_answer 76 rfl) rfl (lv_at hl 3 rfl) ?_
            refine kw_getl hx hb hts inX9 hown hK I 0 rfl rfl 49 (by decide) rfl (hts _ q5_9) (kn_dec tX9_answer 77 rfl) rfl ?_
            refine lv_iload hx hb (kn_dec tX9_answer 78 rfl) (lv_at hl 0 rfl) ?_
            obtain ⟨hs11, h⟩ := h
            refine kw_lald hx hb hK I 0 rfl 49 300 (List.mem_of_getElem? (i := 38) rfl) hs11 (kn_dec tX9_answer 79 rfl) ?_
            refine kw_calll (wc := []) (wr := [(kModel, ad_m, _)]) I hA [] [0] rfl rfl (by decide) (by decide) (kn_runS (As := [.int _, .long _, .long _]) S0 hK hZ hA I ((ctX9_both h).met _) (kn_cwS 3 hts q6_193 q6_194 q1_10 q6_195 rfl rfl (by decide +kernel) ⟨(Nat.le_of_ble_eq_true rfl), (Nat.le_of_ble_eq_true rfl)⟩) [] rfl (by decide) rfl hl.1 rfl (Nat.le_of_ble_eq_true rfl) (kn_dec tX9_answer 80 rfl) ⟨(Nat.le_of_ble_eq_true rfl), (Nat.le_of_ble_eq_true rfl)⟩) (fun r12 u13 H locs h I => ?_)
            have I : kn_I D tc (kn_A w0 s.heap.size) s.heap [(kModel, ad_m, _)] _ _ := I
            obtain ⟨hs14, h⟩ := h
            refine kw_last hx hb hK I 0 rfl 49 300 (List.mem_of_getElem? (i := 38) rfl) ukModel_49 hs14 (kn_dec tX9_answer 81 rfl) (fun v_m15 ev_m15 H locs I => ?_)
            have h := h v_m15 ev_m15
            have I : kn_I D tc (kn_A w0 s.heap.size) s.heap [(kModel, ad_m, _)] _ _ := I
            refine kw_iinc (lvf := fun y => [(5, .int y), (4, .int _), (7, .int _), (6, .int _), (0, .ref (ad_m 0)), (1, .int _), (3, .int _)]) (nv := (1)) hx hb (kn_dec tX9_answer 82 rfl) hl (k := 6) rfl (by decide) (by decide) (fun _ => rfl) (fun x16 ex16 ls hl => ?_)
            have h := h x16 ex16
            refine lv_goto (tgt := 6) hx hb (kn_dec tX9_answer 83 rfl) (by decide) ?_
            exact ih _ _ _ _ _ _ _ _  I (lv_sub hl [4, 5, 6, 1, 0] rfl) h
          · have h := h.2 c8
            refine lv_aload_n hx hb (kn_dec tX9_answer 48 rfl) rfl (lv_at hl 2 rfl) ?_
            refine kw_getl hx hb hts inX9 hown hK I 0 rfl rfl 49 (by decide) rfl (hts _ q5_9) (kn_dec tX9_answer 49 rfl) rfl ?_
            refine lv_iload hx hb (kn_dec tX9_answer 50 rfl) (lv_at hl 5 rfl) ?_
            refine lv_iconst (v := (1)) hx hb (kn_dec tX9_answer 51 rfl) (by decide) ?_
            refine lv_isub hx hb (kn_dec tX9_answer 52 rfl) ?_
            refine lv_lconst (v := 1) hx hb (kn_dec tX9_answer 53 rfl) (by decide) ?_
            refine lv_aload_n hx hb (kn_dec tX9_answer 54 rfl) rfl (lv_at hl 2 rfl) ?_
            refine kw_getl hx hb hts inX9 hown hK I 0 rfl rfl 49 (by decide) rfl (hts _ q5_9) (kn_dec tX9_answer 55 rfl) rfl ?_
            refine lv_iload hx hb (kn_dec tX9_answer 56 rfl) (lv_at hl 5 rfl) ?_
            refine lv_iconst (v := (1)) hx hb (kn_dec tX9_answer 57 rfl) (by decide) ?_
            refine lv_isub hx hb (kn_dec tX9_answer 58 rfl) ?_
            obtain ⟨hs17, h⟩ := h
            refine kw_lald hx hb hK I 0 rfl 49 300 (List.mem_of_getElem? (i := 38) rfl) hs17 (kn_dec tX9_answer 59 rfl) ?_
            refine lv_lsub hx hb (kn_dec tX9_answer 60 rfl) ?_
            refine lv_topl (fun x18 ex18 => ?_)
            have h := h x18 ex18
            obtain ⟨hs19, h⟩ := h
            refine kw_last hx hb hK I 0 rfl 49 300 (List.mem_of_getElem? (i := 38) rfl) ukModel_49 hs19 (kn_dec tX9_answer 61 rfl) (fun v_m20 ev_m20 H locs I => ?_)
            have h := h v_m20 ev_m20
            have I : kn_I D tc (kn_A w0 s.heap.size) s.heap [(kModel, ad_m, _)] _ _ := I
            refine lv_goto (tgt := 147) hx hb (kn_dec tX9_answer 62 rfl) (by decide) ?_
            refine kw_iinc (lvf := fun y => [(5, .int y), (7, .int _), (6, .int _), (0, .ref (ad_m 0)), (1, .int _), (3, .int _), (4, .int _)]) (nv := (1)) hx hb (kn_dec tX9_answer 82 rfl) hl (k := 6) rfl (by decide) (by decide) (fun _ => rfl) (fun x21 ex21 ls hl => ?_)
            have h := h x21 ex21
            refine lv_goto (tgt := 6) hx hb (kn_dec tX9_answer 83 rfl) (by decide) ?_
            exact ih _ _ _ _ _ _ _ _  I (lv_sub hl [3, 4, 5, 6, 0] rfl) h
        · have h := h.2 c7
          exact wX9_answer_b53 X ih _ _ _ _ _ _ _ _ _ _  I (lv_sub hl [2, 3, 4, 5, 6, 1, 0] rfl) h
def PX9_answer  (v_m : OV) (a1 : Int32) (a2 : Int32) (a3 : Int32) (post : Int64 → OV → Prop) : Prop := (∃ n1 : Nat, PX9_answer_L6 post n1 a1 a3 ((0 : Int32)) a2 v_m)
set_option maxRecDepth 100000 in
set_option maxHeartbeats 1000000 in
theorem ctX9_answer {l : Launch} {D : va_G} {tc : Nat → ClassId} {Z : (Nat → Nat) × (Nat → Nat)}  {ad_m : Nat → Nat} {v_m : OV} {a1 : Int32} {a2 : Int32} {a3 : Int32}    {post : Int64 → OV → Prop} (h : PX9_answer  v_m a1 a2 a3 post) : CTl l D tc Z yX9_answer (Cond.code yX9_answer cX9_answer 8 (some .long) :: kn_all) rmX9_answer 0 0 [.ref (ad_m 0), .int a1, .int a2, .int a3] [(kModel, ad_m, v_m)] (fun (u : OV) => [(kModel, ad_m, u)]) (fun (r : Int64) (u : OV) => post r u) := by
  refine kn_ofl (cc := cX9_answer) (nL := 8) (ret := (some .long)) (lv := [(0, .ref (ad_m 0)), (1, .int a1), (2, .int a2), (3, .int a3)]) (by decide) (Nat.le_of_ble_eq_true rfl) rfl (fun p e s m below meth c ls X I hl _ => ?_)
  obtain ⟨S0, hr, hlocks, hK, hZ, hA⟩ := id X
  obtain ⟨hx, hb, hml, hown, hts⟩ := id S0
  unfold PX9_answer at h
  refine lv_iconst (v := (0)) hx hb (kn_dec tX9_answer 0 rfl) (by decide) ?_
  refine lv_istore (lv' := [(4, .int _), (0, .ref (ad_m 0)), (1, .int _), (2, .int _), (3, .int _)]) hx hb (kn_dec tX9_answer 1 rfl) hl (by decide) rfl (fun ls hl => ?_)
  refine lv_iload_n hx hb (kn_dec tX9_answer 2 rfl) rfl (lv_at hl 3 rfl) ?_
  refine lv_istore (lv' := [(5, .int _), (4, .int _), (0, .ref (ad_m 0)), (1, .int _), (2, .int _), (3, .int _)]) hx hb (kn_dec tX9_answer 3 rfl) hl (by decide) rfl (fun ls hl => ?_)
  obtain ⟨n1, h⟩ := h
  exact wX9_answer_L6 X n1 _ _ _ _ _ _ _ _  I (lv_sub hl [2, 3, 5, 1, 0] rfl) h

/-! X9_wanted -/
abbrev rmX9_wanted : Room := { frames := 3, cells := 0, slots := 0, locals := 71 }
def PX9_wanted_b65   (post : Int64 → OV → Prop) (y1 : Int32) (y2 : Int32) (v_m : OV) : Prop := (vp_in y2 72 ∧ (vp_in y2 72 ∧ (PX9_answer v_m y1 (v_m.2.1 44 y2.toNatClampNeg) (v_m.2.1 45 y2.toNatClampNeg) (fun r4 v_m3 => post r4 v_m3))))
set_option maxRecDepth 100000 in
set_option maxHeartbeats 1000000 in
theorem wX9_wanted_b65   {post : Int64 → OV → Prop} {ad_m : Nat → Nat} (X : kn_X p s m args meth c cX9_wanted 3 (some .long) RX9 kn_all D tc Z (kn_A w0 s.heap.size))    : ∀ (H : Heap) (locs : List Loc) (ls : Array Slot) (y1 : Int32) (y2 : Int32) (v_m : OV), kn_I D tc (kn_A w0 s.heap.size) s.heap [(kModel, ad_m, v_m)] H locs → lv_has ls 3 [(0, .ref (ad_m 0)), (1, .int y1), (2, .int y2)] → PX9_wanted_b65 post y1 y2 v_m → W p l e rmX9_wanted s m args below meth c H locs 0 0 (kn_Ql D tc w0 (fun (u : OV) => [(kModel, ad_m, u)]) (fun (r : Int64) (u : OV) => post r u) below args s 0 0) (F0 m 65 ls []) := by
  obtain ⟨S0, hr, hlocks, hK, hZ, hA⟩ := id X
  obtain ⟨hx, hb, hml, hown, hts⟩ := id S0
  intro H locs ls y1 y2 v_m I hl h
  unfold PX9_wanted_b65 at h
  refine lv_aload_n hx hb (kn_dec tX9_wanted 42 rfl) rfl (lv_at hl 0 rfl) ?_
  refine lv_iload_n hx hb (kn_dec tX9_wanted 43 rfl) rfl (lv_at hl 1 rfl) ?_
  refine lv_aload_n hx hb (kn_dec tX9_wanted 44 rfl) rfl (lv_at hl 0 rfl) ?_
  refine kw_getl hx hb hts inX9 hown hK I 0 rfl rfl 44 (by decide) rfl (hts _ q5_4) (kn_dec tX9_wanted 45 rfl) rfl ?_
  refine lv_iload_n hx hb (kn_dec tX9_wanted 46 rfl) rfl (lv_at hl 2 rfl) ?_
  obtain ⟨hs1, h⟩ := h
  refine kw_iald hx hb hK I 0 rfl 44 72 (List.mem_of_getElem? (i := 33) rfl) hs1 (kn_dec tX9_wanted 47 rfl) ?_
  refine lv_aload_n hx hb (kn_dec tX9_wanted 48 rfl) rfl (lv_at hl 0 rfl) ?_
  refine kw_getl hx hb hts inX9 hown hK I 0 rfl rfl 45 (by decide) rfl (hts _ q5_5) (kn_dec tX9_wanted 49 rfl) rfl ?_
  refine lv_iload_n hx hb (kn_dec tX9_wanted 50 rfl) rfl (lv_at hl 2 rfl) ?_
  obtain ⟨hs2, h⟩ := h
  refine kw_iald hx hb hK I 0 rfl 45 72 (List.mem_of_getElem? (i := 34) rfl) hs2 (kn_dec tX9_wanted 51 rfl) ?_
  refine kw_calll (wc := [(kModel, ad_m, _)]) (wr := []) I hA [0] [] rfl rfl (by decide) (by decide) (kn_runV (As := [.int _, .int _, .int _]) S0 hK hZ hA I ((ctX9_answer h).met _) (kn_cwV 3 hts q6_189 q6_191 q0_73 q1_10 q6_192 rfl rfl (by decide +kernel) ⟨(Nat.le_of_ble_eq_true rfl), (Nat.le_of_ble_eq_true rfl)⟩) [0] rfl (by decide) 0 rfl rfl rfl rfl hl.1 rfl (Nat.le_of_ble_eq_true rfl) (kn_dec tX9_wanted 52 rfl) ⟨(Nat.le_of_ble_eq_true rfl), (Nat.le_of_ble_eq_true rfl)⟩) (fun r4 u5 H locs h I => ?_)
  have I : kn_I D tc (kn_A w0 s.heap.size) s.heap [(kModel, ad_m, _)] _ _ := I
  exact kw_lret hx hb hr hlocks I _ rfl h (kn_dec tX9_wanted 53 rfl)
def PX9_wanted_L13   (post : Int64 → OV → Prop) : Nat → Int32 → Int32 → OV → Prop
  | 0, _, _, _ => False
  | n + 1, y1, y2, v_m => (vp_in y1 6 ∧ ((((((12 : Int32)) * y1) + (v_m.2.1 43 y1.toNatClampNeg)) ≤ y2 → post ((0 : Int64)) v_m) ∧ (¬ ((((12 : Int32)) * y1) + (v_m.2.1 43 y1.toNatClampNeg)) ≤ y2 → (vp_in y2 72 ∧ (vp_in y2 72 ∧ (((v_m.2.1 45 y2.toNatClampNeg) = (v_m.2.1 46 y2.toNatClampNeg) → PX9_wanted_b65 post y1 y2 v_m) ∧ (¬ (v_m.2.1 45 y2.toNatClampNeg) = (v_m.2.1 46 y2.toNatClampNeg) → (vp_in y2 72 ∧ (vp_in y2 72 ∧ (PX9_answer v_m y1 (v_m.2.1 45 y2.toNatClampNeg) (v_m.2.1 46 y2.toNatClampNeg) (fun r9 v_m8 => ((¬ (lg_cmp r9 ((1 : Int64))) = ((0 : Int32)) → (∀ x12 : Int32, x12 = y2 + (1 : Int32) → PX9_wanted_L13 post n y1 x12 v_m8)) ∧ ((lg_cmp r9 ((1 : Int64))) = ((0 : Int32)) → PX9_wanted_b65 post y1 y2 v_m8)))))))))))))
set_option maxRecDepth 100000 in
set_option maxHeartbeats 1000000 in
theorem wX9_wanted_L13   {post : Int64 → OV → Prop} {ad_m : Nat → Nat} (X : kn_X p s m args meth c cX9_wanted 3 (some .long) RX9 kn_all D tc Z (kn_A w0 s.heap.size))    : ∀ n : Nat, ∀ (H : Heap) (locs : List Loc) (ls : Array Slot) (y1 : Int32) (y2 : Int32) (v_m : OV), kn_I D tc (kn_A w0 s.heap.size) s.heap [(kModel, ad_m, v_m)] H locs → lv_has ls 3 [(0, .ref (ad_m 0)), (1, .int y1), (2, .int y2)] → PX9_wanted_L13 post n y1 y2 v_m → W p l e rmX9_wanted s m args below meth c H locs 0 0 (kn_Ql D tc w0 (fun (u : OV) => [(kModel, ad_m, u)]) (fun (r : Int64) (u : OV) => post r u) below args s 0 0) (F0 m 13 ls []) := by
  obtain ⟨S0, hr, hlocks, hK, hZ, hA⟩ := id X
  obtain ⟨hx, hb, hml, hown, hts⟩ := id S0
  intro n
  induction n with
  | zero =>
    intro H locs ls y1 y2 v_m I hl h
    unfold PX9_wanted_L13 at h
    exact h.elim
  | succ n ih =>
    intro H locs ls y1 y2 v_m I hl h
    unfold PX9_wanted_L13 at h
    refine lv_iload_n hx hb (kn_dec tX9_wanted 9 rfl) rfl (lv_at hl 2 rfl) ?_
    refine lv_bipush (v := (12)) hx hb (kn_dec tX9_wanted 10 rfl) (by decide) ?_
    refine lv_iload_n hx hb (kn_dec tX9_wanted 11 rfl) rfl (lv_at hl 1 rfl) ?_
    refine lv_imul hx hb (kn_dec tX9_wanted 12 rfl) ?_
    refine lv_aload_n hx hb (kn_dec tX9_wanted 13 rfl) rfl (lv_at hl 0 rfl) ?_
    refine kw_getl hx hb hts inX9 hown hK I 0 rfl rfl 43 (by decide) rfl (hts _ q5_3) (kn_dec tX9_wanted 14 rfl) rfl ?_
    refine lv_iload_n hx hb (kn_dec tX9_wanted 15 rfl) rfl (lv_at hl 1 rfl) ?_
    obtain ⟨hs1, h⟩ := h
    refine kw_iald hx hb hK I 0 rfl 43 6 (List.mem_of_getElem? (i := 32) rfl) hs1 (kn_dec tX9_wanted 16 rfl) ?_
    refine lv_iadd hx hb (kn_dec tX9_wanted 17 rfl) ?_
    refine lv_icmp_ge (tgt := 89) hx hb (kn_dec tX9_wanted 18 rfl) (by decide) (fun c2 => ?_) (fun c2 => ?_)
    · have h := h.1 c2
      refine lv_lconst (v := 0) hx hb (kn_dec tX9_wanted 56 rfl) (by decide) ?_
      exact kw_lret hx hb hr hlocks I _ rfl h (kn_dec tX9_wanted 57 rfl)
    · have h := h.2 c2
      refine lv_aload_n hx hb (kn_dec tX9_wanted 19 rfl) rfl (lv_at hl 0 rfl) ?_
      refine kw_getl hx hb hts inX9 hown hK I 0 rfl rfl 45 (by decide) rfl (hts _ q5_5) (kn_dec tX9_wanted 20 rfl) rfl ?_
      refine lv_iload_n hx hb (kn_dec tX9_wanted 21 rfl) rfl (lv_at hl 2 rfl) ?_
      obtain ⟨hs3, h⟩ := h
      refine kw_iald hx hb hK I 0 rfl 45 72 (List.mem_of_getElem? (i := 34) rfl) hs3 (kn_dec tX9_wanted 22 rfl) ?_
      refine lv_aload_n hx hb (kn_dec tX9_wanted 23 rfl) rfl (lv_at hl 0 rfl) ?_
      refine kw_getl hx hb hts inX9 hown hK I 0 rfl rfl 46 (by decide) rfl (hts _ q5_6) (kn_dec tX9_wanted 24 rfl) rfl ?_
      refine lv_iload_n hx hb (kn_dec tX9_wanted 25 rfl) rfl (lv_at hl 2 rfl) ?_
      obtain ⟨hs4, h⟩ := h
      refine kw_iald hx hb hK I 0 rfl 46 72 (List.mem_of_getElem? (i := 35) rfl) hs4 (kn_dec tX9_wanted 26 rfl) ?_
      refine lv_icmp_eq (tgt := 65) hx hb (kn_dec tX9_wanted 27 rfl) (by decide) (fun c5 => ?_) (fun c5 => ?_)
      · have h := h.1 c5
        exact wX9_wanted_b65 X _ _ _ _ _ _  I (lv_sub hl [0, 1, 2] rfl) h
      · have h := h.2 c5
        refine lv_aload_n hx hb (kn_dec tX9_wanted 28 rfl) rfl (lv_at hl 0 rfl) ?_
        refine lv_iload_n hx hb (kn_dec tX9_wanted 29 rfl) rfl (lv_at hl 1 rfl) ?_
        refine lv_aload_n hx hb (kn_dec tX9_wanted 30 rfl) rfl (lv_at hl 0 rfl) ?_
        refine kw_getl hx hb hts inX9 hown hK I 0 rfl rfl 45 (by decide) rfl (hts _ q5_5) (kn_dec tX9_wanted 31 rfl) rfl ?_
        refine lv_iload_n hx hb (kn_dec tX9_wanted 32 rfl) rfl (lv_at hl 2 rfl) ?_
        obtain ⟨hs6, h⟩ := h
        refine kw_iald hx hb hK I 0 rfl 45 72 (List.mem_of_getElem? (i := 34) rfl) hs6 (kn_dec tX9_wanted 33 rfl) ?_
        refine lv_aload_n hx hb (kn_dec tX9_wanted 34 rfl) rfl (lv_at hl 0 rfl) ?_
        refine kw_getl hx hb hts inX9 hown hK I 0 rfl rfl 46 (by decide) rfl (hts _ q5_6) (kn_dec tX9_wanted 35 rfl) rfl ?_
        refine lv_iload_n hx hb (kn_dec tX9_wanted 36 rfl) rfl (lv_at hl 2 rfl) ?_
        obtain ⟨hs7, h⟩ := h
        refine kw_iald hx hb hK I 0 rfl 46 72 (List.mem_of_getElem? (i := 35) rfl) hs7 (kn_dec tX9_wanted 37 rfl) ?_
        refine kw_calll (wc := [(kModel, ad_m, _)]) (wr := []) I hA [0] [] rfl rfl (by decide) (by decide) (kn_runV (As := [.int _, .int _, .int _]) S0 hK hZ hA I ((ctX9_answer h).met _) (kn_cwV 3 hts q6_189 q6_191 q0_73 q1_10 q6_192 rfl rfl (by decide +kernel) ⟨(Nat.le_of_ble_eq_true rfl), (Nat.le_of_ble_eq_true rfl)⟩) [0] rfl (by decide) 0 rfl rfl rfl rfl hl.1 rfl (Nat.le_of_ble_eq_true rfl) (kn_dec tX9_wanted 38 rfl) ⟨(Nat.le_of_ble_eq_true rfl), (Nat.le_of_ble_eq_true rfl)⟩) (fun r9 u10 H locs h I => ?_)
        have I : kn_I D tc (kn_A w0 s.heap.size) s.heap [(kModel, ad_m, _)] _ _ := I
        refine lv_lconst (v := 1) hx hb (kn_dec tX9_wanted 39 rfl) (by decide) ?_
        refine W.lcmp hx hb (kn_dec tX9_wanted 40 rfl) ?_
        refine lv_if_ne (tgt := 83) hx hb (kn_dec tX9_wanted 41 rfl) (by decide) (fun c11 => ?_) (fun c11 => ?_)
        · have h := h.1 c11
          refine kw_iinc (lvf := fun y => [(2, .int y), (0, .ref (ad_m 0)), (1, .int _)]) (nv := (1)) hx hb (kn_dec tX9_wanted 54 rfl) hl (k := 2) rfl (by decide) (by decide) (fun _ => rfl) (fun x12 ex12 ls hl => ?_)
          have h := h x12 ex12
          refine lv_goto (tgt := 13) hx hb (kn_dec tX9_wanted 55 rfl) (by decide) ?_
          exact ih _ _ _ _ _ _  I (lv_sub hl [1, 2, 0] rfl) h
        · have h := h.2 c11
          exact wX9_wanted_b65 X _ _ _ _ _ _  I (lv_sub hl [0, 1, 2] rfl) h
def PX9_wanted  (v_m : OV) (post : Int64 → OV → Prop) : Prop := (∀ x1 : Int32, x1 = (v_m.2.1 1 ((11 : Int32)).toNatClampNeg) → (∀ x2 : Int32, x2 = (((12 : Int32)) * x1) → (∃ n3 : Nat, PX9_wanted_L13 post n3 x1 x2 v_m)))
set_option maxRecDepth 100000 in
set_option maxHeartbeats 1000000 in
theorem ctX9_wanted {l : Launch} {D : va_G} {tc : Nat → ClassId} {Z : (Nat → Nat) × (Nat → Nat)}  {ad_m : Nat → Nat} {v_m : OV}    {post : Int64 → OV → Prop} (h : PX9_wanted  v_m post) : CTl l D tc Z yX9_wanted (Cond.code yX9_wanted cX9_wanted 3 (some .long) :: kn_all) rmX9_wanted 0 0 [.ref (ad_m 0)] [(kModel, ad_m, v_m)] (fun (u : OV) => [(kModel, ad_m, u)]) (fun (r : Int64) (u : OV) => post r u) := by
  refine kn_ofl (cc := cX9_wanted) (nL := 3) (ret := (some .long)) (lv := [(0, .ref (ad_m 0))]) (by decide) (Nat.le_of_ble_eq_true rfl) rfl (fun p e s m below meth c ls X I hl _ => ?_)
  obtain ⟨S0, hr, hlocks, hK, hZ, hA⟩ := id X
  obtain ⟨hx, hb, hml, hown, hts⟩ := id S0
  unfold PX9_wanted at h
  refine lv_aload_n hx hb (kn_dec tX9_wanted 0 rfl) rfl (lv_at hl 0 rfl) ?_
  refine kw_getl hx hb hts inX9 hown hK I 0 rfl rfl 1 (by decide) rfl (hts _ q4_201) (kn_dec tX9_wanted 1 rfl) rfl ?_
  refine lv_bipush (v := (11)) hx hb (kn_dec tX9_wanted 2 rfl) (by decide) ?_
  refine kw_iald hx hb hK I 0 rfl 1 12 (List.mem_of_getElem? (i := 0) rfl) (by unfold vp_in; decide) (kn_dec tX9_wanted 3 rfl) ?_
  refine lv_topi (fun x1 ex1 => ?_)
  have h := h x1 ex1
  refine lv_istore_n (lv' := [(1, .int _), (0, .ref (ad_m 0))]) hx hb (kn_dec tX9_wanted 4 rfl) rfl hl (by decide) rfl (fun ls hl => ?_)
  refine lv_bipush (v := (12)) hx hb (kn_dec tX9_wanted 5 rfl) (by decide) ?_
  refine lv_iload_n hx hb (kn_dec tX9_wanted 6 rfl) rfl (lv_at hl 0 rfl) ?_
  refine lv_imul hx hb (kn_dec tX9_wanted 7 rfl) ?_
  refine lv_topi (fun x2 ex2 => ?_)
  have h := h x2 ex2
  refine lv_istore_n (lv' := [(2, .int _), (1, .int _), (0, .ref (ad_m 0))]) hx hb (kn_dec tX9_wanted 8 rfl) rfl hl (by decide) rfl (fun ls hl => ?_)
  obtain ⟨n3, h⟩ := h
  exact wX9_wanted_L13 X n3 _ _ _ _ _ _  I (lv_sub hl [2, 1, 0] rfl) h

/-! X9_minutesOf -/
abbrev rmX9_minutesOf : Room := { frames := 0, cells := 0, slots := 0, locals := 0 }
def PX9_minutesOf  (v_m : OV) (a1 : Int32) (a2 : Int32) (post : Int32 → Prop) : Prop := (vp_in a2 10 ∧ (vp_in a1 4 ∧ (vp_in a2 10 ∧ (∀ x4 : Int32, x4 = (((v_m.2.1 3 a2.toNatClampNeg) - (v_m.2.1 7 a1.toNatClampNeg)) - ((v_m.2.1 5 a2.toNatClampNeg) / ((4 : Int32)))) → ((x4 ≤ ((1 : Int32)) → post ((1 : Int32))) ∧ (¬ x4 ≤ ((1 : Int32)) → post x4))))))
set_option maxRecDepth 100000 in
set_option maxHeartbeats 1000000 in
theorem ctX9_minutesOf {l : Launch} {D : va_G} {tc : Nat → ClassId} {Z : (Nat → Nat) × (Nat → Nat)}  {ad_m : Nat → Nat} {v_m : OV} {a1 : Int32} {a2 : Int32}    {post : Int32 → Prop} (h : PX9_minutesOf  v_m a1 a2 post) : CTi l D tc Z yX9_minutesOf (Cond.code yX9_minutesOf cX9_minutesOf 4 (some .int) :: kn_all) rmX9_minutesOf 0 0 [.ref (ad_m 0), .int a1, .int a2] [(kModel, ad_m, v_m)] (fun (u : Unit) => [(kModel, ad_m, v_m)]) (fun (r : Int32) (u : Unit) => post r) := by
  refine kn_ofi (cc := cX9_minutesOf) (nL := 4) (ret := (some .int)) (lv := [(0, .ref (ad_m 0)), (1, .int a1), (2, .int a2)]) (by decide) (Nat.le_of_ble_eq_true rfl) rfl (fun p e s m below meth c ls X I hl _ => ?_)
  obtain ⟨S0, hr, hlocks, hK, hZ, hA⟩ := id X
  obtain ⟨hx, hb, hml, hown, hts⟩ := id S0
  unfold PX9_minutesOf at h
  refine lv_aload_n hx hb (kn_dec tX9_minutesOf 0 rfl) rfl (lv_at hl 0 rfl) ?_
  refine kw_getl hx hb hts inX9 hown hK I 0 rfl rfl 3 (by decide) rfl (hts _ q4_203) (kn_dec tX9_minutesOf 1 rfl) rfl ?_
  refine lv_iload_n hx hb (kn_dec tX9_minutesOf 2 rfl) rfl (lv_at hl 2 rfl) ?_
  obtain ⟨hs1, h⟩ := h
  refine kw_iald hx hb hK I 0 rfl 3 10 (List.mem_of_getElem? (i := 2) rfl) hs1 (kn_dec tX9_minutesOf 3 rfl) ?_
  refine lv_aload_n hx hb (kn_dec tX9_minutesOf 4 rfl) rfl (lv_at hl 0 rfl) ?_
  refine kw_getl hx hb hts inX9 hown hK I 0 rfl rfl 7 (by decide) rfl (hts _ q4_207) (kn_dec tX9_minutesOf 5 rfl) rfl ?_
  refine lv_iload_n hx hb (kn_dec tX9_minutesOf 6 rfl) rfl (lv_at hl 1 rfl) ?_
  obtain ⟨hs2, h⟩ := h
  refine kw_iald hx hb hK I 0 rfl 7 4 (List.mem_of_getElem? (i := 6) rfl) hs2 (kn_dec tX9_minutesOf 7 rfl) ?_
  refine lv_isub hx hb (kn_dec tX9_minutesOf 8 rfl) ?_
  refine lv_aload_n hx hb (kn_dec tX9_minutesOf 9 rfl) rfl (lv_at hl 0 rfl) ?_
  refine kw_getl hx hb hts inX9 hown hK I 0 rfl rfl 5 (by decide) rfl (hts _ q4_205) (kn_dec tX9_minutesOf 10 rfl) rfl ?_
  refine lv_iload_n hx hb (kn_dec tX9_minutesOf 11 rfl) rfl (lv_at hl 2 rfl) ?_
  obtain ⟨hs3, h⟩ := h
  refine kw_iald hx hb hK I 0 rfl 5 10 (List.mem_of_getElem? (i := 4) rfl) hs3 (kn_dec tX9_minutesOf 12 rfl) ?_
  refine lv_iconst (v := (4)) hx hb (kn_dec tX9_minutesOf 13 rfl) (by decide) ?_
  refine lv_idiv hx hb (kn_dec tX9_minutesOf 14 rfl) (by decide) ?_
  refine lv_isub hx hb (kn_dec tX9_minutesOf 15 rfl) ?_
  refine lv_topi (fun x4 ex4 => ?_)
  have h := h x4 ex4
  refine lv_istore_n (lv' := [(3, .int _), (0, .ref (ad_m 0)), (1, .int _), (2, .int _)]) hx hb (kn_dec tX9_minutesOf 16 rfl) rfl hl (by decide) rfl (fun ls hl => ?_)
  refine lv_iload_n hx hb (kn_dec tX9_minutesOf 17 rfl) rfl (lv_at hl 0 rfl) ?_
  refine lv_iconst (v := (1)) hx hb (kn_dec tX9_minutesOf 18 rfl) (by decide) ?_
  refine lv_icmp_le (tgt := 32) hx hb (kn_dec tX9_minutesOf 19 rfl) (by decide) (fun c5 => ?_) (fun c5 => ?_)
  · have h := h.1 c5
    refine lv_iconst (v := (1)) hx hb (kn_dec tX9_minutesOf 22 rfl) (by decide) ?_
    exact kw_iret hx hb hr hlocks I () rfl h (kn_dec tX9_minutesOf 23 rfl)
  · have h := h.2 c5
    refine lv_iload_n hx hb (kn_dec tX9_minutesOf 20 rfl) rfl (lv_at hl 0 rfl) ?_
    refine lv_goto (tgt := 33) hx hb (kn_dec tX9_minutesOf 21 rfl) (by decide) ?_
    exact kw_iret hx hb hr hlocks I () rfl h (kn_dec tX9_minutesOf 23 rfl)

/-! X9_whoTried -/
abbrev rmX9_whoTried : Room := { frames := 1, cells := 0, slots := 0, locals := 21 }
def PX9_whoTried_b35 (v_m : OV) (K4 : Int32 → Int32 → Int32 → Prop) (post : Int32 → Prop) (t0 : Int32) (t1 : Int32) (y1 : Int32) (y3 : Int32) : Prop := (∀ x1 : Int32, x1 = (t0 ||| t1) → (∀ x2 : Int32, x2 = y3 + (1 : Int32) → K4 y1 x1 x2))
set_option maxRecDepth 100000 in
set_option maxHeartbeats 1000000 in
theorem wX9_whoTried_b35 {v_m : OV} {K4 : Int32 → Int32 → Int32 → Prop} {post : Int32 → Prop} {ad_m : Nat → Nat} (X : kn_X p s m args meth c cX9_whoTried 4 (some .int) RX9 kn_all D tc Z (kn_A w0 s.heap.size))   (hK4 : ∀ (H : Heap) (locs : List Loc) (ls : Array Slot) (y1 : Int32) (y2 : Int32) (y3 : Int32), kn_I D tc (kn_A w0 s.heap.size) s.heap [(kModel, ad_m, v_m)] H locs → lv_has ls 4 [(0, .ref (ad_m 0)), (1, .int y1), (2, .int y2), (3, .int y3)] → K4 y1 y2 y3 → W p l e rmX9_whoTried s m args below meth c H locs 0 0 (kn_Qi D tc w0 (fun (u : Unit) => [(kModel, ad_m, v_m)]) (fun (r : Int32) (u : Unit) => post r) below args s 0 0) (F0 m 4 ls [])) : ∀ (H : Heap) (locs : List Loc) (ls : Array Slot) (t0 : Int32) (t1 : Int32) (y1 : Int32) (y3 : Int32), kn_I D tc (kn_A w0 s.heap.size) s.heap [(kModel, ad_m, v_m)] H locs → lv_has ls 4 [(0, .ref (ad_m 0)), (1, .int y1), (3, .int y3)] → PX9_whoTried_b35 v_m K4 post t0 t1 y1 y3 → W p l e rmX9_whoTried s m args below meth c H locs 0 0 (kn_Qi D tc w0 (fun (u : Unit) => [(kModel, ad_m, v_m)]) (fun (r : Int32) (u : Unit) => post r) below args s 0 0) (F0 m 35 ls [.int t1, .int t0]) := by
  obtain ⟨S0, hr, hlocks, hK, hZ, hA⟩ := id X
  obtain ⟨hx, hb, hml, hown, hts⟩ := id S0
  intro H locs ls t0 t1 y1 y3 I hl h
  unfold PX9_whoTried_b35 at h
  refine lv_ior hx hb (kn_dec tX9_whoTried 23 rfl) ?_
  refine lv_topi (fun x1 ex1 => ?_)
  have h := h x1 ex1
  refine lv_istore_n (lv' := [(2, .int _), (0, .ref (ad_m 0)), (1, .int _), (3, .int _)]) hx hb (kn_dec tX9_whoTried 24 rfl) rfl hl (by decide) rfl (fun ls hl => ?_)
  refine kw_iinc (lvf := fun y => [(3, .int y), (2, .int _), (0, .ref (ad_m 0)), (1, .int _)]) (nv := (1)) hx hb (kn_dec tX9_whoTried 25 rfl) hl (k := 3) rfl (by decide) (by decide) (fun _ => rfl) (fun x2 ex2 ls hl => ?_)
  have h := h x2 ex2
  refine lv_goto (tgt := 4) hx hb (kn_dec tX9_whoTried 26 rfl) (by decide) ?_
  exact hK4 _ _ _ _ _ _  I (lv_sub hl [2, 3, 1, 0] rfl) h
def PX9_whoTried_L4 (v_m : OV)  (post : Int32 → Prop) : Nat → Int32 → Int32 → Int32 → Prop
  | 0, _, _, _ => False
  | n + 1, y1, y2, y3 => (((v_m.2.1 1 ((5 : Int32)).toNatClampNeg) ≤ y3 → post y2) ∧ (¬ (v_m.2.1 1 ((5 : Int32)).toNatClampNeg) ≤ y3 → (vp_in y3 4 ∧ (PX9_has (v_m.2.1 13 y3.toNatClampNeg) y1 (fun r3 => ((r3 = ((0 : Int32)) → PX9_whoTried_b35 v_m (PX9_whoTried_L4 v_m post n) post y2 ((0 : Int32)) y1 y3) ∧ (¬ r3 = ((0 : Int32)) → PX9_whoTried_b35 v_m (PX9_whoTried_L4 v_m post n) post y2 (((1 : Int32)) <<< (y3 &&& 31)) y1 y3)))))))
set_option maxRecDepth 100000 in
set_option maxHeartbeats 1000000 in
theorem wX9_whoTried_L4 {v_m : OV}  {post : Int32 → Prop} {ad_m : Nat → Nat} (X : kn_X p s m args meth c cX9_whoTried 4 (some .int) RX9 kn_all D tc Z (kn_A w0 s.heap.size))    : ∀ n : Nat, ∀ (H : Heap) (locs : List Loc) (ls : Array Slot) (y1 : Int32) (y2 : Int32) (y3 : Int32), kn_I D tc (kn_A w0 s.heap.size) s.heap [(kModel, ad_m, v_m)] H locs → lv_has ls 4 [(0, .ref (ad_m 0)), (1, .int y1), (2, .int y2), (3, .int y3)] → PX9_whoTried_L4 v_m post n y1 y2 y3 → W p l e rmX9_whoTried s m args below meth c H locs 0 0 (kn_Qi D tc w0 (fun (u : Unit) => [(kModel, ad_m, v_m)]) (fun (r : Int32) (u : Unit) => post r) below args s 0 0) (F0 m 4 ls []) := by
  obtain ⟨S0, hr, hlocks, hK, hZ, hA⟩ := id X
  obtain ⟨hx, hb, hml, hown, hts⟩ := id S0
  intro n
  induction n with
  | zero =>
    intro H locs ls y1 y2 y3 I hl h
    unfold PX9_whoTried_L4 at h
    exact h.elim
  | succ n ih =>
    intro H locs ls y1 y2 y3 I hl h
    unfold PX9_whoTried_L4 at h
    refine lv_iload_n hx hb (kn_dec tX9_whoTried 4 rfl) rfl (lv_at hl 3 rfl) ?_
    refine lv_aload_n hx hb (kn_dec tX9_whoTried 5 rfl) rfl (lv_at hl 0 rfl) ?_
    refine kw_getl hx hb hts inX9 hown hK I 0 rfl rfl 1 (by decide) rfl (hts _ q4_201) (kn_dec tX9_whoTried 6 rfl) rfl ?_
    refine lv_iconst (v := (5)) hx hb (kn_dec tX9_whoTried 7 rfl) (by decide) ?_
    refine kw_iald hx hb hK I 0 rfl 1 12 (List.mem_of_getElem? (i := 0) rfl) (by unfold vp_in; decide) (kn_dec tX9_whoTried 8 rfl) ?_
    refine lv_icmp_ge (tgt := 43) hx hb (kn_dec tX9_whoTried 9 rfl) (by decide) (fun c1 => ?_) (fun c1 => ?_)
    · have h := h.1 c1
      refine lv_iload_n hx hb (kn_dec tX9_whoTried 27 rfl) rfl (lv_at hl 2 rfl) ?_
      exact kw_iret hx hb hr hlocks I () rfl h (kn_dec tX9_whoTried 28 rfl)
    · have h := h.2 c1
      refine lv_iload_n hx hb (kn_dec tX9_whoTried 10 rfl) rfl (lv_at hl 2 rfl) ?_
      refine lv_aload_n hx hb (kn_dec tX9_whoTried 11 rfl) rfl (lv_at hl 0 rfl) ?_
      refine kw_getl hx hb hts inX9 hown hK I 0 rfl rfl 13 (by decide) rfl (hts _ q4_213) (kn_dec tX9_whoTried 12 rfl) rfl ?_
      refine lv_iload_n hx hb (kn_dec tX9_whoTried 13 rfl) rfl (lv_at hl 3 rfl) ?_
      obtain ⟨hs2, h⟩ := h
      refine kw_iald hx hb hK I 0 rfl 13 4 (List.mem_of_getElem? (i := 12) rfl) hs2 (kn_dec tX9_whoTried 14 rfl) ?_
      refine lv_iload_n hx hb (kn_dec tX9_whoTried 15 rfl) rfl (lv_at hl 1 rfl) ?_
      refine kw_calli (wc := []) (wr := [(kModel, ad_m, _)]) I hA [] [0] rfl rfl (by decide) (by decide) (kn_runS (As := [.int _, .int _]) S0 hK hZ hA I ((ctX9_has h).met _) (kn_cwS 2 hts q6_112 q6_113 q1_10 q6_114 rfl rfl (by decide +kernel) ⟨(Nat.le_of_ble_eq_true rfl), (Nat.le_of_ble_eq_true rfl)⟩) [] rfl (by decide) rfl hl.1 rfl (Nat.le_of_ble_eq_true rfl) (kn_dec tX9_whoTried 16 rfl) ⟨(Nat.le_of_ble_eq_true rfl), (Nat.le_of_ble_eq_true rfl)⟩) (fun r3 u4 H locs h I => ?_)
      obtain ⟨hz_r3, h⟩ := h
      have I : kn_I D tc (kn_A w0 s.heap.size) s.heap [(kModel, ad_m, _)] _ _ := I
      refine lv_if_eq (tgt := 34) hx hb (kn_dec tX9_whoTried 17 rfl) (by decide) (fun c5 => ?_) (fun c5 => ?_)
      · have h := h.1 c5
        refine lv_iconst (v := (0)) hx hb (kn_dec tX9_whoTried 22 rfl) (by decide) ?_
        exact wX9_whoTried_b35 X ih _ _ _ _ _ _ _  I (lv_sub hl [0, 1, 3] rfl) h
      · have h := h.2 c5
        refine lv_iconst (v := (1)) hx hb (kn_dec tX9_whoTried 18 rfl) (by decide) ?_
        refine lv_iload_n hx hb (kn_dec tX9_whoTried 19 rfl) rfl (lv_at hl 3 rfl) ?_
        refine lv_ishl hx hb (kn_dec tX9_whoTried 20 rfl) ?_
        refine lv_goto (tgt := 35) hx hb (kn_dec tX9_whoTried 21 rfl) (by decide) ?_
        exact wX9_whoTried_b35 X ih _ _ _ _ _ _ _  I (lv_sub hl [0, 1, 3] rfl) h
def PX9_whoTried  (v_m : OV) (a1 : Int32) (post : Int32 → Prop) : Prop := (∃ n1 : Nat, PX9_whoTried_L4 v_m post n1 a1 ((0 : Int32)) ((0 : Int32)))
set_option maxRecDepth 100000 in
set_option maxHeartbeats 1000000 in
theorem ctX9_whoTried {l : Launch} {D : va_G} {tc : Nat → ClassId} {Z : (Nat → Nat) × (Nat → Nat)}  {ad_m : Nat → Nat} {v_m : OV} {a1 : Int32}    {post : Int32 → Prop} (h : PX9_whoTried  v_m a1 post) : CTi l D tc Z yX9_whoTried (Cond.code yX9_whoTried cX9_whoTried 4 (some .int) :: kn_all) rmX9_whoTried 0 0 [.ref (ad_m 0), .int a1] [(kModel, ad_m, v_m)] (fun (u : Unit) => [(kModel, ad_m, v_m)]) (fun (r : Int32) (u : Unit) => post r) := by
  refine kn_ofi (cc := cX9_whoTried) (nL := 4) (ret := (some .int)) (lv := [(0, .ref (ad_m 0)), (1, .int a1)]) (by decide) (Nat.le_of_ble_eq_true rfl) rfl (fun p e s m below meth c ls X I hl _ => ?_)
  obtain ⟨S0, hr, hlocks, hK, hZ, hA⟩ := id X
  obtain ⟨hx, hb, hml, hown, hts⟩ := id S0
  unfold PX9_whoTried at h
  refine lv_iconst (v := (0)) hx hb (kn_dec tX9_whoTried 0 rfl) (by decide) ?_
  refine lv_istore_n (lv' := [(2, .int _), (0, .ref (ad_m 0)), (1, .int _)]) hx hb (kn_dec tX9_whoTried 1 rfl) rfl hl (by decide) rfl (fun ls hl => ?_)
  refine lv_iconst (v := (0)) hx hb (kn_dec tX9_whoTried 2 rfl) (by decide) ?_
  refine lv_istore_n (lv' := [(3, .int _), (2, .int _), (0, .ref (ad_m 0)), (1, .int _)]) hx hb (kn_dec tX9_whoTried 3 rfl) rfl hl (by decide) rfl (fun ls hl => ?_)
  obtain ⟨n1, h⟩ := h
  exact wX9_whoTried_L4 X n1 _ _ _ _ _ _  I (lv_sub hl [2, 3, 1, 0] rfl) h

/-! X9_stone -/
abbrev rmX9_stone : Room := { frames := 2, cells := 0, slots := 0, locals := 46 }
def PX9_stone  (v_m : OV) (a1 : Int32) (a2 : Int32) (post : Int32 → Prop) : Prop := (PX9_isStone v_m a1 (fun r1 => ((¬ r1 = ((0 : Int32)) → ((a2 = (0 : Int32) → (vp_in a1 10 ∧ post (v_m.2.1 2 a1.toNatClampNeg))) ∧ (¬ a2 = (0 : Int32) → ((a2 = (1 : Int32) → (vp_in a1 10 ∧ post (v_m.2.1 3 a1.toNatClampNeg))) ∧ (¬ a2 = (1 : Int32) → ((a2 = (2 : Int32) → (vp_in a1 10 ∧ post (v_m.2.1 4 a1.toNatClampNeg))) ∧ (¬ a2 = (2 : Int32) → ((a2 = (3 : Int32) → (vp_in a1 10 ∧ post (v_m.2.1 5 a1.toNatClampNeg))) ∧ (¬ a2 = (3 : Int32) → ((a2 = (4 : Int32) → (PX9_whoTried v_m a1 (fun r13 => post r13))) ∧ (¬ a2 = (4 : Int32) → post ((-1 : Int32))))))))))))) ∧ (r1 = ((0 : Int32)) → post ((-1 : Int32))))))
set_option maxRecDepth 100000 in
set_option maxHeartbeats 1000000 in
theorem ctX9_stone {l : Launch} {D : va_G} {tc : Nat → ClassId} {Z : (Nat → Nat) × (Nat → Nat)}  {ad_m : Nat → Nat} {v_m : OV} {a1 : Int32} {a2 : Int32}    {post : Int32 → Prop} (h : PX9_stone  v_m a1 a2 post) : CTi l D tc Z yX9_stone (Cond.code yX9_stone cX9_stone 3 (some .int) :: kn_all) rmX9_stone 0 0 [.ref (ad_m 0), .int a1, .int a2] [(kModel, ad_m, v_m)] (fun (u : Unit) => [(kModel, ad_m, v_m)]) (fun (r : Int32) (u : Unit) => post r) := by
  refine kn_ofi (cc := cX9_stone) (nL := 3) (ret := (some .int)) (lv := [(0, .ref (ad_m 0)), (1, .int a1), (2, .int a2)]) (by decide) (Nat.le_of_ble_eq_true rfl) rfl (fun p e s m below meth c ls X I hl _ => ?_)
  obtain ⟨S0, hr, hlocks, hK, hZ, hA⟩ := id X
  obtain ⟨hx, hb, hml, hown, hts⟩ := id S0
  unfold PX9_stone at h
  refine lv_aload_n hx hb (kn_dec tX9_stone 0 rfl) rfl (lv_at hl 0 rfl) ?_
  refine lv_iload_n hx hb (kn_dec tX9_stone 1 rfl) rfl (lv_at hl 1 rfl) ?_
  refine kw_calli (wc := [(kModel, ad_m, _)]) (wr := []) I hA [0] [] rfl rfl (by decide) (by decide) (kn_runV (As := [.int _]) S0 hK hZ hA I ((ctX9_isStone h).met _) (kn_cwV 1 hts q6_104 q6_106 q0_58 q1_10 q6_107 rfl rfl (by decide +kernel) ⟨(Nat.le_of_ble_eq_true rfl), (Nat.le_of_ble_eq_true rfl)⟩) [0] rfl (by decide) 0 rfl rfl rfl rfl hl.1 rfl (Nat.le_of_ble_eq_true rfl) (kn_dec tX9_stone 2 rfl) ⟨(Nat.le_of_ble_eq_true rfl), (Nat.le_of_ble_eq_true rfl)⟩) (fun r1 u2 H locs h I => ?_)
  obtain ⟨hz_r1, h⟩ := h
  have I : kn_I D tc (kn_A _ s.heap.size) s.heap [(kModel, ad_m, _)] _ _ := I
  refine lv_if_ne (tgt := 10) hx hb (kn_dec tX9_stone 3 rfl) (by decide) (fun c3 => ?_) (fun c3 => ?_)
  · have h := h.1 c3
    refine lv_iload_n hx hb (kn_dec tX9_stone 6 rfl) rfl (lv_at hl 2 rfl) ?_
    rcases Classical.em (a2 = (0 : Int32)) with c4 | c4
    · have h := h.1 c4
      refine lv_tableIn (off := 33) (tgt := 44) hx hb (kn_dec tX9_stone 7 rfl) (by rw [c4]; decide) (by rw [c4]; decide) (by rw [c4]; rfl) (by decide) ?_
      refine lv_aload_n hx hb (kn_dec tX9_stone 8 rfl) rfl (lv_at hl 0 rfl) ?_
      refine kw_getl hx hb hts inX9 hown hK I 0 rfl rfl 2 (by decide) rfl (hts _ q4_202) (kn_dec tX9_stone 9 rfl) rfl ?_
      refine lv_iload_n hx hb (kn_dec tX9_stone 10 rfl) rfl (lv_at hl 1 rfl) ?_
      obtain ⟨hs5, h⟩ := h
      refine kw_iald hx hb hK I 0 rfl 2 10 (List.mem_of_getElem? (i := 1) rfl) hs5 (kn_dec tX9_stone 11 rfl) ?_
      exact kw_iret hx hb hr hlocks I () rfl h (kn_dec tX9_stone 12 rfl)
    · have h := h.2 c4
      rcases Classical.em (a2 = (1 : Int32)) with c6 | c6
      · have h := h.1 c6
        refine lv_tableIn (off := 40) (tgt := 51) hx hb (kn_dec tX9_stone 7 rfl) (by rw [c6]; decide) (by rw [c6]; decide) (by rw [c6]; rfl) (by decide) ?_
        refine lv_aload_n hx hb (kn_dec tX9_stone 13 rfl) rfl (lv_at hl 0 rfl) ?_
        refine kw_getl hx hb hts inX9 hown hK I 0 rfl rfl 3 (by decide) rfl (hts _ q4_203) (kn_dec tX9_stone 14 rfl) rfl ?_
        refine lv_iload_n hx hb (kn_dec tX9_stone 15 rfl) rfl (lv_at hl 1 rfl) ?_
        obtain ⟨hs7, h⟩ := h
        refine kw_iald hx hb hK I 0 rfl 3 10 (List.mem_of_getElem? (i := 2) rfl) hs7 (kn_dec tX9_stone 16 rfl) ?_
        exact kw_iret hx hb hr hlocks I () rfl h (kn_dec tX9_stone 17 rfl)
      · have h := h.2 c6
        rcases Classical.em (a2 = (2 : Int32)) with c8 | c8
        · have h := h.1 c8
          refine lv_tableIn (off := 47) (tgt := 58) hx hb (kn_dec tX9_stone 7 rfl) (by rw [c8]; decide) (by rw [c8]; decide) (by rw [c8]; rfl) (by decide) ?_
          refine lv_aload_n hx hb (kn_dec tX9_stone 18 rfl) rfl (lv_at hl 0 rfl) ?_
          refine kw_getl hx hb hts inX9 hown hK I 0 rfl rfl 4 (by decide) rfl (hts _ q4_204) (kn_dec tX9_stone 19 rfl) rfl ?_
          refine lv_iload_n hx hb (kn_dec tX9_stone 20 rfl) rfl (lv_at hl 1 rfl) ?_
          obtain ⟨hs9, h⟩ := h
          refine kw_iald hx hb hK I 0 rfl 4 10 (List.mem_of_getElem? (i := 3) rfl) hs9 (kn_dec tX9_stone 21 rfl) ?_
          exact kw_iret hx hb hr hlocks I () rfl h (kn_dec tX9_stone 22 rfl)
        · have h := h.2 c8
          rcases Classical.em (a2 = (3 : Int32)) with c10 | c10
          · have h := h.1 c10
            refine lv_tableIn (off := 54) (tgt := 65) hx hb (kn_dec tX9_stone 7 rfl) (by rw [c10]; decide) (by rw [c10]; decide) (by rw [c10]; rfl) (by decide) ?_
            refine lv_aload_n hx hb (kn_dec tX9_stone 23 rfl) rfl (lv_at hl 0 rfl) ?_
            refine kw_getl hx hb hts inX9 hown hK I 0 rfl rfl 5 (by decide) rfl (hts _ q4_205) (kn_dec tX9_stone 24 rfl) rfl ?_
            refine lv_iload_n hx hb (kn_dec tX9_stone 25 rfl) rfl (lv_at hl 1 rfl) ?_
            obtain ⟨hs11, h⟩ := h
            refine kw_iald hx hb hK I 0 rfl 5 10 (List.mem_of_getElem? (i := 4) rfl) hs11 (kn_dec tX9_stone 26 rfl) ?_
            exact kw_iret hx hb hr hlocks I () rfl h (kn_dec tX9_stone 27 rfl)
          · have h := h.2 c10
            rcases Classical.em (a2 = (4 : Int32)) with c12 | c12
            · have h := h.1 c12
              refine lv_tableIn (off := 61) (tgt := 72) hx hb (kn_dec tX9_stone 7 rfl) (by rw [c12]; decide) (by rw [c12]; decide) (by rw [c12]; rfl) (by decide) ?_
              refine lv_aload_n hx hb (kn_dec tX9_stone 28 rfl) rfl (lv_at hl 0 rfl) ?_
              refine lv_iload_n hx hb (kn_dec tX9_stone 29 rfl) rfl (lv_at hl 1 rfl) ?_
              refine kw_calli (wc := [(kModel, ad_m, _)]) (wr := []) I hA [0] [] rfl rfl (by decide) (by decide) (kn_runV (As := [.int _]) S0 hK hZ hA I ((ctX9_whoTried h).met _) (kn_cwV 1 hts q6_108 q6_110 q0_59 q1_10 q6_111 rfl rfl (by decide +kernel) ⟨(Nat.le_of_ble_eq_true rfl), (Nat.le_of_ble_eq_true rfl)⟩) [0] rfl (by decide) 0 rfl rfl rfl rfl hl.1 rfl (Nat.le_of_ble_eq_true rfl) (kn_dec tX9_stone 30 rfl) ⟨(Nat.le_of_ble_eq_true rfl), (Nat.le_of_ble_eq_true rfl)⟩) (fun r13 u14 H locs h I => ?_)
              have I : kn_I D tc (kn_A _ s.heap.size) s.heap [(kModel, ad_m, _)] _ _ := I
              exact kw_iret hx hb hr hlocks I () rfl h (kn_dec tX9_stone 31 rfl)
            · have h := h.2 c12
              refine lv_tableOut (tgt := 78) hx hb (kn_dec tX9_stone 7 rfl) (by have z0 := kn_nei (k := 0) c4 (by decide); have z1 := kn_nei (k := 1) c6 (by decide); have z2 := kn_nei (k := 2) c8 (by decide); have z3 := kn_nei (k := 3) c10 (by decide); have z4 := kn_nei (k := 4) c12 (by decide); omega) (by decide) ?_
              refine lv_iconst (v := (-1)) hx hb (kn_dec tX9_stone 32 rfl) (by decide) ?_
              exact kw_iret hx hb hr hlocks I () rfl h (kn_dec tX9_stone 33 rfl)
  · have h := h.2 c3
    refine lv_iconst (v := (-1)) hx hb (kn_dec tX9_stone 4 rfl) (by decide) ?_
    exact kw_iret hx hb hr hlocks I () rfl h (kn_dec tX9_stone 5 rfl)

/-! X9_seeker -/
abbrev rmX9_seeker : Room := { frames := 2, cells := 0, slots := 0, locals := 46 }
def PX9_seeker  (v_m : OV) (a1 : Int32) (a2 : Int32) (post : Int32 → Prop) : Prop := (PX9_isSeeker v_m a1 (fun r1 => ((¬ r1 = ((0 : Int32)) → ((a2 = (0 : Int32) → (vp_in a1 4 ∧ post (v_m.2.1 7 a1.toNatClampNeg))) ∧ (¬ a2 = (0 : Int32) → ((a2 = (1 : Int32) → (vp_in a1 4 ∧ post (v_m.2.1 8 a1.toNatClampNeg))) ∧ (¬ a2 = (1 : Int32) → ((a2 = (2 : Int32) → (vp_in a1 4 ∧ post (v_m.2.1 9 a1.toNatClampNeg))) ∧ (¬ a2 = (2 : Int32) → ((a2 = (3 : Int32) → (vp_in a1 4 ∧ post (v_m.2.1 10 a1.toNatClampNeg))) ∧ (¬ a2 = (3 : Int32) → ((a2 = (4 : Int32) → (vp_in a1 4 ∧ post (v_m.2.1 11 a1.toNatClampNeg))) ∧ (¬ a2 = (4 : Int32) → ((a2 = (5 : Int32) → (vp_in a1 4 ∧ post (v_m.2.1 12 a1.toNatClampNeg))) ∧ (¬ a2 = (5 : Int32) → ((a2 = (6 : Int32) → (vp_in a1 4 ∧ post (v_m.2.1 13 a1.toNatClampNeg))) ∧ (¬ a2 = (6 : Int32) → post ((-2 : Int32))))))))))))))))) ∧ (r1 = ((0 : Int32)) → post ((-2 : Int32))))))
set_option maxRecDepth 100000 in
set_option maxHeartbeats 1000000 in
theorem ctX9_seeker {l : Launch} {D : va_G} {tc : Nat → ClassId} {Z : (Nat → Nat) × (Nat → Nat)}  {ad_m : Nat → Nat} {v_m : OV} {a1 : Int32} {a2 : Int32}    {post : Int32 → Prop} (h : PX9_seeker  v_m a1 a2 post) : CTi l D tc Z yX9_seeker (Cond.code yX9_seeker cX9_seeker 3 (some .int) :: kn_all) rmX9_seeker 0 0 [.ref (ad_m 0), .int a1, .int a2] [(kModel, ad_m, v_m)] (fun (u : Unit) => [(kModel, ad_m, v_m)]) (fun (r : Int32) (u : Unit) => post r) := by
  refine kn_ofi (cc := cX9_seeker) (nL := 3) (ret := (some .int)) (lv := [(0, .ref (ad_m 0)), (1, .int a1), (2, .int a2)]) (by decide) (Nat.le_of_ble_eq_true rfl) rfl (fun p e s m below meth c ls X I hl _ => ?_)
  obtain ⟨S0, hr, hlocks, hK, hZ, hA⟩ := id X
  obtain ⟨hx, hb, hml, hown, hts⟩ := id S0
  unfold PX9_seeker at h
  refine lv_aload_n hx hb (kn_dec tX9_seeker 0 rfl) rfl (lv_at hl 0 rfl) ?_
  refine lv_iload_n hx hb (kn_dec tX9_seeker 1 rfl) rfl (lv_at hl 1 rfl) ?_
  refine kw_calli (wc := [(kModel, ad_m, _)]) (wr := []) I hA [0] [] rfl rfl (by decide) (by decide) (kn_runV (As := [.int _]) S0 hK hZ hA I ((ctX9_isSeeker h).met _) (kn_cwV 1 hts q6_119 q6_121 q0_60 q1_10 q6_122 rfl rfl (by decide +kernel) ⟨(Nat.le_of_ble_eq_true rfl), (Nat.le_of_ble_eq_true rfl)⟩) [0] rfl (by decide) 0 rfl rfl rfl rfl hl.1 rfl (Nat.le_of_ble_eq_true rfl) (kn_dec tX9_seeker 2 rfl) ⟨(Nat.le_of_ble_eq_true rfl), (Nat.le_of_ble_eq_true rfl)⟩) (fun r1 u2 H locs h I => ?_)
  obtain ⟨hz_r1, h⟩ := h
  have I : kn_I D tc (kn_A _ s.heap.size) s.heap [(kModel, ad_m, _)] _ _ := I
  refine lv_if_ne (tgt := 11) hx hb (kn_dec tX9_seeker 3 rfl) (by decide) (fun c3 => ?_) (fun c3 => ?_)
  · have h := h.1 c3
    refine lv_iload_n hx hb (kn_dec tX9_seeker 6 rfl) rfl (lv_at hl 2 rfl) ?_
    rcases Classical.em (a2 = (0 : Int32)) with c4 | c4
    · have h := h.1 c4
      refine lv_tableIn (off := 44) (tgt := 56) hx hb (kn_dec tX9_seeker 7 rfl) (by rw [c4]; decide) (by rw [c4]; decide) (by rw [c4]; rfl) (by decide) ?_
      refine lv_aload_n hx hb (kn_dec tX9_seeker 8 rfl) rfl (lv_at hl 0 rfl) ?_
      refine kw_getl hx hb hts inX9 hown hK I 0 rfl rfl 7 (by decide) rfl (hts _ q4_207) (kn_dec tX9_seeker 9 rfl) rfl ?_
      refine lv_iload_n hx hb (kn_dec tX9_seeker 10 rfl) rfl (lv_at hl 1 rfl) ?_
      obtain ⟨hs5, h⟩ := h
      refine kw_iald hx hb hK I 0 rfl 7 4 (List.mem_of_getElem? (i := 6) rfl) hs5 (kn_dec tX9_seeker 11 rfl) ?_
      exact kw_iret hx hb hr hlocks I () rfl h (kn_dec tX9_seeker 12 rfl)
    · have h := h.2 c4
      rcases Classical.em (a2 = (1 : Int32)) with c6 | c6
      · have h := h.1 c6
        refine lv_tableIn (off := 51) (tgt := 63) hx hb (kn_dec tX9_seeker 7 rfl) (by rw [c6]; decide) (by rw [c6]; decide) (by rw [c6]; rfl) (by decide) ?_
        refine lv_aload_n hx hb (kn_dec tX9_seeker 13 rfl) rfl (lv_at hl 0 rfl) ?_
        refine kw_getl hx hb hts inX9 hown hK I 0 rfl rfl 8 (by decide) rfl (hts _ q4_208) (kn_dec tX9_seeker 14 rfl) rfl ?_
        refine lv_iload_n hx hb (kn_dec tX9_seeker 15 rfl) rfl (lv_at hl 1 rfl) ?_
        obtain ⟨hs7, h⟩ := h
        refine kw_iald hx hb hK I 0 rfl 8 4 (List.mem_of_getElem? (i := 7) rfl) hs7 (kn_dec tX9_seeker 16 rfl) ?_
        exact kw_iret hx hb hr hlocks I () rfl h (kn_dec tX9_seeker 17 rfl)
      · have h := h.2 c6
        rcases Classical.em (a2 = (2 : Int32)) with c8 | c8
        · have h := h.1 c8
          refine lv_tableIn (off := 58) (tgt := 70) hx hb (kn_dec tX9_seeker 7 rfl) (by rw [c8]; decide) (by rw [c8]; decide) (by rw [c8]; rfl) (by decide) ?_
          refine lv_aload_n hx hb (kn_dec tX9_seeker 18 rfl) rfl (lv_at hl 0 rfl) ?_
          refine kw_getl hx hb hts inX9 hown hK I 0 rfl rfl 9 (by decide) rfl (hts _ q4_209) (kn_dec tX9_seeker 19 rfl) rfl ?_
          refine lv_iload_n hx hb (kn_dec tX9_seeker 20 rfl) rfl (lv_at hl 1 rfl) ?_
          obtain ⟨hs9, h⟩ := h
          refine kw_iald hx hb hK I 0 rfl 9 4 (List.mem_of_getElem? (i := 8) rfl) hs9 (kn_dec tX9_seeker 21 rfl) ?_
          exact kw_iret hx hb hr hlocks I () rfl h (kn_dec tX9_seeker 22 rfl)
        · have h := h.2 c8
          rcases Classical.em (a2 = (3 : Int32)) with c10 | c10
          · have h := h.1 c10
            refine lv_tableIn (off := 65) (tgt := 77) hx hb (kn_dec tX9_seeker 7 rfl) (by rw [c10]; decide) (by rw [c10]; decide) (by rw [c10]; rfl) (by decide) ?_
            refine lv_aload_n hx hb (kn_dec tX9_seeker 23 rfl) rfl (lv_at hl 0 rfl) ?_
            refine kw_getl hx hb hts inX9 hown hK I 0 rfl rfl 10 (by decide) rfl (hts _ q4_210) (kn_dec tX9_seeker 24 rfl) rfl ?_
            refine lv_iload_n hx hb (kn_dec tX9_seeker 25 rfl) rfl (lv_at hl 1 rfl) ?_
            obtain ⟨hs11, h⟩ := h
            refine kw_iald hx hb hK I 0 rfl 10 4 (List.mem_of_getElem? (i := 9) rfl) hs11 (kn_dec tX9_seeker 26 rfl) ?_
            exact kw_iret hx hb hr hlocks I () rfl h (kn_dec tX9_seeker 27 rfl)
          · have h := h.2 c10
            rcases Classical.em (a2 = (4 : Int32)) with c12 | c12
            · have h := h.1 c12
              refine lv_tableIn (off := 72) (tgt := 84) hx hb (kn_dec tX9_seeker 7 rfl) (by rw [c12]; decide) (by rw [c12]; decide) (by rw [c12]; rfl) (by decide) ?_
              refine lv_aload_n hx hb (kn_dec tX9_seeker 28 rfl) rfl (lv_at hl 0 rfl) ?_
              refine kw_getl hx hb hts inX9 hown hK I 0 rfl rfl 11 (by decide) rfl (hts _ q4_211) (kn_dec tX9_seeker 29 rfl) rfl ?_
              refine lv_iload_n hx hb (kn_dec tX9_seeker 30 rfl) rfl (lv_at hl 1 rfl) ?_
              obtain ⟨hs13, h⟩ := h
              refine kw_iald hx hb hK I 0 rfl 11 4 (List.mem_of_getElem? (i := 10) rfl) hs13 (kn_dec tX9_seeker 31 rfl) ?_
              exact kw_iret hx hb hr hlocks I () rfl h (kn_dec tX9_seeker 32 rfl)
            · have h := h.2 c12
              rcases Classical.em (a2 = (5 : Int32)) with c14 | c14
              · have h := h.1 c14
                refine lv_tableIn (off := 79) (tgt := 91) hx hb (kn_dec tX9_seeker 7 rfl) (by rw [c14]; decide) (by rw [c14]; decide) (by rw [c14]; rfl) (by decide) ?_
                refine lv_aload_n hx hb (kn_dec tX9_seeker 33 rfl) rfl (lv_at hl 0 rfl) ?_
                refine kw_getl hx hb hts inX9 hown hK I 0 rfl rfl 12 (by decide) rfl (hts _ q4_212) (kn_dec tX9_seeker 34 rfl) rfl ?_
                refine lv_iload_n hx hb (kn_dec tX9_seeker 35 rfl) rfl (lv_at hl 1 rfl) ?_
                obtain ⟨hs15, h⟩ := h
                refine kw_iald hx hb hK I 0 rfl 12 4 (List.mem_of_getElem? (i := 11) rfl) hs15 (kn_dec tX9_seeker 36 rfl) ?_
                exact kw_iret hx hb hr hlocks I () rfl h (kn_dec tX9_seeker 37 rfl)
              · have h := h.2 c14
                rcases Classical.em (a2 = (6 : Int32)) with c16 | c16
                · have h := h.1 c16
                  refine lv_tableIn (off := 86) (tgt := 98) hx hb (kn_dec tX9_seeker 7 rfl) (by rw [c16]; decide) (by rw [c16]; decide) (by rw [c16]; rfl) (by decide) ?_
                  refine lv_aload_n hx hb (kn_dec tX9_seeker 38 rfl) rfl (lv_at hl 0 rfl) ?_
                  refine kw_getl hx hb hts inX9 hown hK I 0 rfl rfl 13 (by decide) rfl (hts _ q4_213) (kn_dec tX9_seeker 39 rfl) rfl ?_
                  refine lv_iload_n hx hb (kn_dec tX9_seeker 40 rfl) rfl (lv_at hl 1 rfl) ?_
                  obtain ⟨hs17, h⟩ := h
                  refine kw_iald hx hb hK I 0 rfl 13 4 (List.mem_of_getElem? (i := 12) rfl) hs17 (kn_dec tX9_seeker 41 rfl) ?_
                  exact kw_iret hx hb hr hlocks I () rfl h (kn_dec tX9_seeker 42 rfl)
                · have h := h.2 c16
                  refine lv_tableOut (tgt := 105) hx hb (kn_dec tX9_seeker 7 rfl) (by have z0 := kn_nei (k := 0) c4 (by decide); have z1 := kn_nei (k := 1) c6 (by decide); have z2 := kn_nei (k := 2) c8 (by decide); have z3 := kn_nei (k := 3) c10 (by decide); have z4 := kn_nei (k := 4) c12 (by decide); have z5 := kn_nei (k := 5) c14 (by decide); have z6 := kn_nei (k := 6) c16 (by decide); omega) (by decide) ?_
                  refine lv_bipush (v := (-2)) hx hb (kn_dec tX9_seeker 43 rfl) (by decide) ?_
                  exact kw_iret hx hb hr hlocks I () rfl h (kn_dec tX9_seeker 44 rfl)
  · have h := h.2 c3
    refine lv_bipush (v := (-2)) hx hb (kn_dec tX9_seeker 4 rfl) (by decide) ?_
    exact kw_iret hx hb hr hlocks I () rfl h (kn_dec tX9_seeker 5 rfl)

/-! X9_thing -/
abbrev rmX9_thing : Room := { frames := 1, cells := 0, slots := 0, locals := 25 }
def PX9_thing  (v_m : OV) (a1 : Int32) (post : Int32 → Prop) : Prop := (PX9_in a1.toInt64 ((0 : Int64)) (((v_m.2.1 1 ((4 : Int32)).toNatClampNeg) - ((1 : Int32))).toInt64) (fun r1 => ((r1 = ((0 : Int32)) → post ((-1 : Int32))) ∧ (¬ r1 = ((0 : Int32)) → (vp_in a1 6 ∧ post (v_m.2.1 6 a1.toNatClampNeg))))))
set_option maxRecDepth 100000 in
set_option maxHeartbeats 1000000 in
theorem ctX9_thing {l : Launch} {D : va_G} {tc : Nat → ClassId} {Z : (Nat → Nat) × (Nat → Nat)}  {ad_m : Nat → Nat} {v_m : OV} {a1 : Int32}    {post : Int32 → Prop} (h : PX9_thing  v_m a1 post) : CTi l D tc Z yX9_thing (Cond.code yX9_thing cX9_thing 2 (some .int) :: kn_all) rmX9_thing 0 0 [.ref (ad_m 0), .int a1] [(kModel, ad_m, v_m)] (fun (u : Unit) => [(kModel, ad_m, v_m)]) (fun (r : Int32) (u : Unit) => post r) := by
  refine kn_ofi (cc := cX9_thing) (nL := 2) (ret := (some .int)) (lv := [(0, .ref (ad_m 0)), (1, .int a1)]) (by decide) (Nat.le_of_ble_eq_true rfl) rfl (fun p e s m below meth c ls X I hl _ => ?_)
  obtain ⟨S0, hr, hlocks, hK, hZ, hA⟩ := id X
  obtain ⟨hx, hb, hml, hown, hts⟩ := id S0
  unfold PX9_thing at h
  refine lv_iload_n hx hb (kn_dec tX9_thing 0 rfl) rfl (lv_at hl 1 rfl) ?_
  refine lv_i2l hx hb (kn_dec tX9_thing 1 rfl) rfl ?_
  refine lv_lconst (v := 0) hx hb (kn_dec tX9_thing 2 rfl) (by decide) ?_
  refine lv_aload_n hx hb (kn_dec tX9_thing 3 rfl) rfl (lv_at hl 0 rfl) ?_
  refine kw_getl hx hb hts inX9 hown hK I 0 rfl rfl 1 (by decide) rfl (hts _ q4_201) (kn_dec tX9_thing 4 rfl) rfl ?_
  refine lv_iconst (v := (4)) hx hb (kn_dec tX9_thing 5 rfl) (by decide) ?_
  refine kw_iald hx hb hK I 0 rfl 1 12 (List.mem_of_getElem? (i := 0) rfl) (by unfold vp_in; decide) (kn_dec tX9_thing 6 rfl) ?_
  refine lv_iconst (v := (1)) hx hb (kn_dec tX9_thing 7 rfl) (by decide) ?_
  refine lv_isub hx hb (kn_dec tX9_thing 8 rfl) ?_
  refine lv_i2l hx hb (kn_dec tX9_thing 9 rfl) rfl ?_
  refine kw_calli (wc := []) (wr := [(kModel, ad_m, _)]) I hA [] [0] rfl rfl (by decide) (by decide) (kn_runS (As := [.long _, .long _, .long _]) S0 hK hZ hA I ((ctX9_in h).met _) (kn_cwS 3 hts q6_1 q6_2 q1_10 q6_3 rfl rfl (by decide +kernel) ⟨(Nat.le_of_ble_eq_true rfl), (Nat.le_of_ble_eq_true rfl)⟩) [] rfl (by decide) rfl hl.1 rfl (Nat.le_of_ble_eq_true rfl) (kn_dec tX9_thing 10 rfl) ⟨(Nat.le_of_ble_eq_true rfl), (Nat.le_of_ble_eq_true rfl)⟩) (fun r1 u2 H locs h I => ?_)
  obtain ⟨hz_r1, h⟩ := h
  have I : kn_I D tc (kn_A _ s.heap.size) s.heap [(kModel, ad_m, _)] _ _ := I
  refine lv_if_eq (tgt := 27) hx hb (kn_dec tX9_thing 11 rfl) (by decide) (fun c3 => ?_) (fun c3 => ?_)
  · have h := h.1 c3
    refine lv_iconst (v := (-1)) hx hb (kn_dec tX9_thing 17 rfl) (by decide) ?_
    exact kw_iret hx hb hr hlocks I () rfl h (kn_dec tX9_thing 18 rfl)
  · have h := h.2 c3
    refine lv_aload_n hx hb (kn_dec tX9_thing 12 rfl) rfl (lv_at hl 0 rfl) ?_
    refine kw_getl hx hb hts inX9 hown hK I 0 rfl rfl 6 (by decide) rfl (hts _ q4_206) (kn_dec tX9_thing 13 rfl) rfl ?_
    refine lv_iload_n hx hb (kn_dec tX9_thing 14 rfl) rfl (lv_at hl 1 rfl) ?_
    obtain ⟨hs4, h⟩ := h
    refine kw_iald hx hb hK I 0 rfl 6 6 (List.mem_of_getElem? (i := 5) rfl) hs4 (kn_dec tX9_thing 15 rfl) ?_
    refine lv_goto (tgt := 28) hx hb (kn_dec tX9_thing 16 rfl) (by decide) ?_
    exact kw_iret hx hb hr hlocks I () rfl h (kn_dec tX9_thing 18 rfl)

/-! X9_foundBy -/
abbrev rmX9_foundBy : Room := { frames := 0, cells := 0, slots := 0, locals := 0 }
def PX9_foundBy_b32 (v_m : OV) (K4 : Int32 → Int32 → Prop) (post : Int32 → Prop) (t0 : Int32) (t1 : Int32) (y2 : Int32) : Prop := (∀ x1 : Int32, x1 = (t0 ||| t1) → (∀ x2 : Int32, x2 = y2 + (1 : Int32) → K4 x1 x2))
set_option maxRecDepth 100000 in
set_option maxHeartbeats 1000000 in
theorem wX9_foundBy_b32 {v_m : OV} {K4 : Int32 → Int32 → Prop} {post : Int32 → Prop} {ad_m : Nat → Nat} (X : kn_X p s m args meth c cX9_foundBy 3 (some .int) RX9 kn_all D tc Z (kn_A w0 s.heap.size))   (hK4 : ∀ (H : Heap) (locs : List Loc) (ls : Array Slot) (y1 : Int32) (y2 : Int32), kn_I D tc (kn_A w0 s.heap.size) s.heap [(kModel, ad_m, v_m)] H locs → lv_has ls 3 [(0, .ref (ad_m 0)), (1, .int y1), (2, .int y2)] → K4 y1 y2 → W p l e rmX9_foundBy s m args below meth c H locs 0 0 (kn_Qi D tc w0 (fun (u : Unit) => [(kModel, ad_m, v_m)]) (fun (r : Int32) (u : Unit) => post r) below args s 0 0) (F0 m 4 ls [])) : ∀ (H : Heap) (locs : List Loc) (ls : Array Slot) (t0 : Int32) (t1 : Int32) (y2 : Int32), kn_I D tc (kn_A w0 s.heap.size) s.heap [(kModel, ad_m, v_m)] H locs → lv_has ls 3 [(0, .ref (ad_m 0)), (2, .int y2)] → PX9_foundBy_b32 v_m K4 post t0 t1 y2 → W p l e rmX9_foundBy s m args below meth c H locs 0 0 (kn_Qi D tc w0 (fun (u : Unit) => [(kModel, ad_m, v_m)]) (fun (r : Int32) (u : Unit) => post r) below args s 0 0) (F0 m 32 ls [.int t1, .int t0]) := by
  obtain ⟨S0, hr, hlocks, hK, hZ, hA⟩ := id X
  obtain ⟨hx, hb, hml, hown, hts⟩ := id S0
  intro H locs ls t0 t1 y2 I hl h
  unfold PX9_foundBy_b32 at h
  refine lv_ior hx hb (kn_dec tX9_foundBy 22 rfl) ?_
  refine lv_topi (fun x1 ex1 => ?_)
  have h := h x1 ex1
  refine lv_istore_n (lv' := [(1, .int _), (0, .ref (ad_m 0)), (2, .int _)]) hx hb (kn_dec tX9_foundBy 23 rfl) rfl hl (by decide) rfl (fun ls hl => ?_)
  refine kw_iinc (lvf := fun y => [(2, .int y), (1, .int _), (0, .ref (ad_m 0))]) (nv := (1)) hx hb (kn_dec tX9_foundBy 24 rfl) hl (k := 2) rfl (by decide) (by decide) (fun _ => rfl) (fun x2 ex2 ls hl => ?_)
  have h := h x2 ex2
  refine lv_goto (tgt := 4) hx hb (kn_dec tX9_foundBy 25 rfl) (by decide) ?_
  exact hK4 _ _ _ _ _  I (lv_sub hl [2, 1, 0] rfl) h
def PX9_foundBy_L4 (v_m : OV)  (post : Int32 → Prop) : Nat → Int32 → Int32 → Prop
  | 0, _, _ => False
  | n + 1, y1, y2 => (((v_m.2.1 1 ((5 : Int32)).toNatClampNeg) ≤ y2 → post y1) ∧ (¬ (v_m.2.1 1 ((5 : Int32)).toNatClampNeg) ≤ y2 → (vp_in y2 4 ∧ (((v_m.2.1 11 y2.toNatClampNeg) = ((-1 : Int32)) → PX9_foundBy_b32 v_m (PX9_foundBy_L4 v_m post n) post y1 ((0 : Int32)) y2) ∧ (¬ (v_m.2.1 11 y2.toNatClampNeg) = ((-1 : Int32)) → PX9_foundBy_b32 v_m (PX9_foundBy_L4 v_m post n) post y1 (((1 : Int32)) <<< (y2 &&& 31)) y2)))))
set_option maxRecDepth 100000 in
set_option maxHeartbeats 1000000 in
theorem wX9_foundBy_L4 {v_m : OV}  {post : Int32 → Prop} {ad_m : Nat → Nat} (X : kn_X p s m args meth c cX9_foundBy 3 (some .int) RX9 kn_all D tc Z (kn_A w0 s.heap.size))    : ∀ n : Nat, ∀ (H : Heap) (locs : List Loc) (ls : Array Slot) (y1 : Int32) (y2 : Int32), kn_I D tc (kn_A w0 s.heap.size) s.heap [(kModel, ad_m, v_m)] H locs → lv_has ls 3 [(0, .ref (ad_m 0)), (1, .int y1), (2, .int y2)] → PX9_foundBy_L4 v_m post n y1 y2 → W p l e rmX9_foundBy s m args below meth c H locs 0 0 (kn_Qi D tc w0 (fun (u : Unit) => [(kModel, ad_m, v_m)]) (fun (r : Int32) (u : Unit) => post r) below args s 0 0) (F0 m 4 ls []) := by
  obtain ⟨S0, hr, hlocks, hK, hZ, hA⟩ := id X
  obtain ⟨hx, hb, hml, hown, hts⟩ := id S0
  intro n
  induction n with
  | zero =>
    intro H locs ls y1 y2 I hl h
    unfold PX9_foundBy_L4 at h
    exact h.elim
  | succ n ih =>
    intro H locs ls y1 y2 I hl h
    unfold PX9_foundBy_L4 at h
    refine lv_iload_n hx hb (kn_dec tX9_foundBy 4 rfl) rfl (lv_at hl 2 rfl) ?_
    refine lv_aload_n hx hb (kn_dec tX9_foundBy 5 rfl) rfl (lv_at hl 0 rfl) ?_
    refine kw_getl hx hb hts inX9 hown hK I 0 rfl rfl 1 (by decide) rfl (hts _ q4_201) (kn_dec tX9_foundBy 6 rfl) rfl ?_
    refine lv_iconst (v := (5)) hx hb (kn_dec tX9_foundBy 7 rfl) (by decide) ?_
    refine kw_iald hx hb hK I 0 rfl 1 12 (List.mem_of_getElem? (i := 0) rfl) (by unfold vp_in; decide) (kn_dec tX9_foundBy 8 rfl) ?_
    refine lv_icmp_ge (tgt := 40) hx hb (kn_dec tX9_foundBy 9 rfl) (by decide) (fun c1 => ?_) (fun c1 => ?_)
    · have h := h.1 c1
      refine lv_iload_n hx hb (kn_dec tX9_foundBy 26 rfl) rfl (lv_at hl 1 rfl) ?_
      exact kw_iret hx hb hr hlocks I () rfl h (kn_dec tX9_foundBy 27 rfl)
    · have h := h.2 c1
      refine lv_iload_n hx hb (kn_dec tX9_foundBy 10 rfl) rfl (lv_at hl 1 rfl) ?_
      refine lv_aload_n hx hb (kn_dec tX9_foundBy 11 rfl) rfl (lv_at hl 0 rfl) ?_
      refine kw_getl hx hb hts inX9 hown hK I 0 rfl rfl 11 (by decide) rfl (hts _ q4_211) (kn_dec tX9_foundBy 12 rfl) rfl ?_
      refine lv_iload_n hx hb (kn_dec tX9_foundBy 13 rfl) rfl (lv_at hl 2 rfl) ?_
      obtain ⟨hs2, h⟩ := h
      refine kw_iald hx hb hK I 0 rfl 11 4 (List.mem_of_getElem? (i := 10) rfl) hs2 (kn_dec tX9_foundBy 14 rfl) ?_
      refine lv_iconst (v := (-1)) hx hb (kn_dec tX9_foundBy 15 rfl) (by decide) ?_
      refine lv_icmp_eq (tgt := 31) hx hb (kn_dec tX9_foundBy 16 rfl) (by decide) (fun c3 => ?_) (fun c3 => ?_)
      · have h := h.1 c3
        refine lv_iconst (v := (0)) hx hb (kn_dec tX9_foundBy 21 rfl) (by decide) ?_
        exact wX9_foundBy_b32 X ih _ _ _ _ _ _  I (lv_sub hl [0, 2] rfl) h
      · have h := h.2 c3
        refine lv_iconst (v := (1)) hx hb (kn_dec tX9_foundBy 17 rfl) (by decide) ?_
        refine lv_iload_n hx hb (kn_dec tX9_foundBy 18 rfl) rfl (lv_at hl 2 rfl) ?_
        refine lv_ishl hx hb (kn_dec tX9_foundBy 19 rfl) ?_
        refine lv_goto (tgt := 32) hx hb (kn_dec tX9_foundBy 20 rfl) (by decide) ?_
        exact wX9_foundBy_b32 X ih _ _ _ _ _ _  I (lv_sub hl [0, 2] rfl) h
def PX9_foundBy  (v_m : OV) (post : Int32 → Prop) : Prop := (∃ n1 : Nat, PX9_foundBy_L4 v_m post n1 ((0 : Int32)) ((0 : Int32)))
set_option maxRecDepth 100000 in
set_option maxHeartbeats 1000000 in
theorem ctX9_foundBy {l : Launch} {D : va_G} {tc : Nat → ClassId} {Z : (Nat → Nat) × (Nat → Nat)}  {ad_m : Nat → Nat} {v_m : OV}    {post : Int32 → Prop} (h : PX9_foundBy  v_m post) : CTi l D tc Z yX9_foundBy (Cond.code yX9_foundBy cX9_foundBy 3 (some .int) :: kn_all) rmX9_foundBy 0 0 [.ref (ad_m 0)] [(kModel, ad_m, v_m)] (fun (u : Unit) => [(kModel, ad_m, v_m)]) (fun (r : Int32) (u : Unit) => post r) := by
  refine kn_ofi (cc := cX9_foundBy) (nL := 3) (ret := (some .int)) (lv := [(0, .ref (ad_m 0))]) (by decide) (Nat.le_of_ble_eq_true rfl) rfl (fun p e s m below meth c ls X I hl _ => ?_)
  obtain ⟨S0, hr, hlocks, hK, hZ, hA⟩ := id X
  obtain ⟨hx, hb, hml, hown, hts⟩ := id S0
  unfold PX9_foundBy at h
  refine lv_iconst (v := (0)) hx hb (kn_dec tX9_foundBy 0 rfl) (by decide) ?_
  refine lv_istore_n (lv' := [(1, .int _), (0, .ref (ad_m 0))]) hx hb (kn_dec tX9_foundBy 1 rfl) rfl hl (by decide) rfl (fun ls hl => ?_)
  refine lv_iconst (v := (0)) hx hb (kn_dec tX9_foundBy 2 rfl) (by decide) ?_
  refine lv_istore_n (lv' := [(2, .int _), (1, .int _), (0, .ref (ad_m 0))]) hx hb (kn_dec tX9_foundBy 3 rfl) rfl hl (by decide) rfl (fun ls hl => ?_)
  obtain ⟨n1, h⟩ := h
  exact wX9_foundBy_L4 X n1 _ _ _ _ _  I (lv_sub hl [2, 1, 0] rfl) h

/-! X9_doWalk -/
abbrev rmX9_doWalk : Room := { frames := 0, cells := 0, slots := 0, locals := 0 }
def PX9_doWalk_L2 (v_m : OV)  (post : Int32 → Prop) : Nat → Int32 → Int32 → Prop
  | 0, _, _ => False
  | n + 1, y1, y2 => (((v_m.2.1 1 ((6 : Int32)).toNatClampNeg) ≤ y2 → (((v_m.1 50) = 0 ∨ (v_m.1 50) = 1) ∧ post (v_m.1 50))) ∧ (¬ (v_m.2.1 1 ((6 : Int32)).toNatClampNeg) ≤ y2 → (vp_in y2 8 ∧ ((¬ (v_m.2.1 14 y2.toNatClampNeg) = y1 → (∀ x5 : Int32, x5 = y2 + (1 : Int32) → PX9_doWalk_L2 v_m post n y1 x5)) ∧ ((v_m.2.1 14 y2.toNatClampNeg) = y1 → post ((1 : Int32)))))))
set_option maxRecDepth 100000 in
set_option maxHeartbeats 1000000 in
theorem wX9_doWalk_L2 {v_m : OV}  {post : Int32 → Prop} {ad_m : Nat → Nat} (X : kn_X p s m args meth c cX9_doWalk 3 (some .boolean) RX9 kn_all D tc Z (kn_A w0 s.heap.size))    : ∀ n : Nat, ∀ (H : Heap) (locs : List Loc) (ls : Array Slot) (y1 : Int32) (y2 : Int32), kn_I D tc (kn_A w0 s.heap.size) s.heap [(kModel, ad_m, v_m)] H locs → lv_has ls 3 [(0, .ref (ad_m 0)), (1, .int y1), (2, .int y2)] → PX9_doWalk_L2 v_m post n y1 y2 → W p l e rmX9_doWalk s m args below meth c H locs 0 0 (kn_Qi D tc w0 (fun (u : Unit) => [(kModel, ad_m, v_m)]) (fun (r : Int32) (u : Unit) => (r = 0 ∨ r = 1) ∧ post r) below args s 0 0) (F0 m 2 ls []) := by
  obtain ⟨S0, hr, hlocks, hK, hZ, hA⟩ := id X
  obtain ⟨hx, hb, hml, hown, hts⟩ := id S0
  intro n
  induction n with
  | zero =>
    intro H locs ls y1 y2 I hl h
    unfold PX9_doWalk_L2 at h
    exact h.elim
  | succ n ih =>
    intro H locs ls y1 y2 I hl h
    unfold PX9_doWalk_L2 at h
    refine lv_iload_n hx hb (kn_dec tX9_doWalk 2 rfl) rfl (lv_at hl 2 rfl) ?_
    refine lv_aload_n hx hb (kn_dec tX9_doWalk 3 rfl) rfl (lv_at hl 0 rfl) ?_
    refine kw_getl hx hb hts inX9 hown hK I 0 rfl rfl 1 (by decide) rfl (hts _ q4_201) (kn_dec tX9_doWalk 4 rfl) rfl ?_
    refine lv_bipush (v := (6)) hx hb (kn_dec tX9_doWalk 5 rfl) (by decide) ?_
    refine kw_iald hx hb hK I 0 rfl 1 12 (List.mem_of_getElem? (i := 0) rfl) (by unfold vp_in; decide) (kn_dec tX9_doWalk 6 rfl) ?_
    refine lv_icmp_ge (tgt := 31) hx hb (kn_dec tX9_doWalk 7 rfl) (by decide) (fun c1 => ?_) (fun c1 => ?_)
    · have h := h.1 c1
      refine lv_aload_n hx hb (kn_dec tX9_doWalk 18 rfl) rfl (lv_at hl 0 rfl) ?_
      refine kw_geti hx hb hts inX9 hown hK I 0 rfl rfl 50 (by decide) rfl (hts _ q5_10) (kn_dec tX9_doWalk 19 rfl) ?_
      obtain ⟨hz2, h⟩ := h
      exact kw_zret hx hb hr (kn_nz hz2) hlocks I () rfl ⟨hz2, h⟩ (kn_dec tX9_doWalk 20 rfl)
    · have h := h.2 c1
      refine lv_aload_n hx hb (kn_dec tX9_doWalk 8 rfl) rfl (lv_at hl 0 rfl) ?_
      refine kw_getl hx hb hts inX9 hown hK I 0 rfl rfl 14 (by decide) rfl (hts _ q4_214) (kn_dec tX9_doWalk 9 rfl) rfl ?_
      refine lv_iload_n hx hb (kn_dec tX9_doWalk 10 rfl) rfl (lv_at hl 2 rfl) ?_
      obtain ⟨hs3, h⟩ := h
      refine kw_iald hx hb hK I 0 rfl 14 8 (List.mem_of_getElem? (i := 13) rfl) hs3 (kn_dec tX9_doWalk 11 rfl) ?_
      refine lv_iload_n hx hb (kn_dec tX9_doWalk 12 rfl) rfl (lv_at hl 1 rfl) ?_
      refine lv_icmp_ne (tgt := 25) hx hb (kn_dec tX9_doWalk 13 rfl) (by decide) (fun c4 => ?_) (fun c4 => ?_)
      · have h := h.1 c4
        refine kw_iinc (lvf := fun y => [(2, .int y), (0, .ref (ad_m 0)), (1, .int _)]) (nv := (1)) hx hb (kn_dec tX9_doWalk 16 rfl) hl (k := 2) rfl (by decide) (by decide) (fun _ => rfl) (fun x5 ex5 ls hl => ?_)
        have h := h x5 ex5
        refine lv_goto (tgt := 2) hx hb (kn_dec tX9_doWalk 17 rfl) (by decide) ?_
        exact ih _ _ _ _ _  I (lv_sub hl [1, 2, 0] rfl) h
      · have h := h.2 c4
        refine lv_iconst (v := (1)) hx hb (kn_dec tX9_doWalk 14 rfl) (by decide) ?_
        exact kw_zret hx hb hr (kn_nz (Or.inr rfl)) hlocks I () rfl ⟨(Or.inr rfl), h⟩ (kn_dec tX9_doWalk 15 rfl)
def PX9_doWalk  (v_m : OV) (a1 : Int32) (post : Int32 → Prop) : Prop := (∃ n1 : Nat, PX9_doWalk_L2 v_m post n1 a1 ((0 : Int32)))
set_option maxRecDepth 100000 in
set_option maxHeartbeats 1000000 in
theorem ctX9_doWalk {l : Launch} {D : va_G} {tc : Nat → ClassId} {Z : (Nat → Nat) × (Nat → Nat)}  {ad_m : Nat → Nat} {v_m : OV} {a1 : Int32}    {post : Int32 → Prop} (h : PX9_doWalk  v_m a1 post) : CTi l D tc Z yX9_doWalk (Cond.code yX9_doWalk cX9_doWalk 3 (some .boolean) :: kn_all) rmX9_doWalk 0 0 [.ref (ad_m 0), .int a1] [(kModel, ad_m, v_m)] (fun (u : Unit) => [(kModel, ad_m, v_m)]) (fun (r : Int32) (u : Unit) => (r = 0 ∨ r = 1) ∧ post r) := by
  refine kn_ofi (cc := cX9_doWalk) (nL := 3) (ret := (some .boolean)) (lv := [(0, .ref (ad_m 0)), (1, .int a1)]) (by decide) (Nat.le_of_ble_eq_true rfl) rfl (fun p e s m below meth c ls X I hl _ => ?_)
  obtain ⟨S0, hr, hlocks, hK, hZ, hA⟩ := id X
  obtain ⟨hx, hb, hml, hown, hts⟩ := id S0
  unfold PX9_doWalk at h
  refine lv_iconst (v := (0)) hx hb (kn_dec tX9_doWalk 0 rfl) (by decide) ?_
  refine lv_istore_n (lv' := [(2, .int _), (0, .ref (ad_m 0)), (1, .int _)]) hx hb (kn_dec tX9_doWalk 1 rfl) rfl hl (by decide) rfl (fun ls hl => ?_)
  obtain ⟨n1, h⟩ := h
  exact wX9_doWalk_L2 X n1 _ _ _ _ _  I (lv_sub hl [1, 2, 0] rfl) h

/-! X9_sumOf -/
abbrev rmX9_sumOf : Room := { frames := 4, cells := 0, slots := 0, locals := 93 }
def PX9_sumOf_b200   (post : Int64 → OV → Prop) (t1 : Int32) (t2 : Int64) (v_m : OV) : Prop := (vp_in t1 14 ∧ (∀ v_m2 : OV, v_m2 = sl v_m 48 (vp_updL (v_m.2.2 48) t1.toNatClampNeg t2) → (PX9_foundBy v_m2 (fun r3 => (PX9_bits r3 (fun r5 => (∀ x7 : Int64, x7 = (r5.toInt64) → (∀ v_m8 : OV, v_m8 = sl v_m2 48 (vp_updL (v_m2.2.2 48) ((12 : Int32)).toNatClampNeg x7) → (∀ x9 : Int64, x9 = ((v_m8.2.1 1 ((8 : Int32)).toNatClampNeg).toInt64) → (∀ v_m10 : OV, v_m10 = sl v_m8 48 (vp_updL (v_m8.2.2 48) ((13 : Int32)).toNatClampNeg x9) → (PX9_wanted v_m10 (fun r12 v_m11 => post r12 v_m11))))))))))))
set_option maxRecDepth 100000 in
set_option maxHeartbeats 1000000 in
theorem wX9_sumOf_b200   {post : Int64 → OV → Prop} {ad_m : Nat → Nat} (X : kn_X p s m args meth c cX9_sumOf 3 (some .long) RX9 kn_all D tc Z (kn_A w0 s.heap.size))    : ∀ (H : Heap) (locs : List Loc) (ls : Array Slot) (t1 : Int32) (t2 : Int64) (v_m : OV), kn_I D tc (kn_A w0 s.heap.size) s.heap [(kModel, ad_m, v_m)] H locs → lv_has ls 3 [(0, .ref (ad_m 0))] → PX9_sumOf_b200 post t1 t2 v_m → W p l e rmX9_sumOf s m args below meth c H locs 0 0 (kn_Ql D tc w0 (fun (u : OV) => [(kModel, ad_m, u)]) (fun (r : Int64) (u : OV) => post r u) below args s 0 0) (F0 m 200 ls [.long t2, .int t1, .ref (ad_m (48 + 1))]) := by
  obtain ⟨S0, hr, hlocks, hK, hZ, hA⟩ := id X
  obtain ⟨hx, hb, hml, hown, hts⟩ := id S0
  intro H locs ls t1 t2 v_m I hl h
  unfold PX9_sumOf_b200 at h
  obtain ⟨hs1, h⟩ := h
  refine kw_last hx hb hK I 0 rfl 48 14 (List.mem_of_getElem? (i := 37) rfl) ukModel_48 hs1 (kn_dec tX9_sumOf_t2 9 rfl) (fun v_m2 ev_m2 H locs I => ?_)
  have h := h v_m2 ev_m2
  have I : kn_I D tc (kn_A w0 s.heap.size) s.heap [(kModel, ad_m, _)] _ _ := I
  refine lv_aload_n hx hb (kn_dec tX9_sumOf_t2 10 rfl) rfl (lv_at hl 0 rfl) ?_
  refine kw_getl hx hb hts inX9 hown hK I 0 rfl rfl 48 (by decide) rfl (hts _ q5_8) (kn_dec tX9_sumOf_t2 11 rfl) rfl ?_
  refine lv_bipush (v := (12)) hx hb (kn_dec tX9_sumOf_t2 12 rfl) (by decide) ?_
  refine lv_aload_n hx hb (kn_dec tX9_sumOf_t2 13 rfl) rfl (lv_at hl 0 rfl) ?_
  refine kw_calli (wc := [(kModel, ad_m, _)]) (wr := []) I hA [0] [] rfl rfl (by decide) (by decide) (kn_runV (As := []) S0 hK hZ hA I ((ctX9_foundBy h).met _) (kn_cwV 0 hts q6_178 q6_180 q0_71 q1_10 q6_181 rfl rfl (by decide +kernel) ⟨(Nat.le_of_ble_eq_true rfl), (Nat.le_of_ble_eq_true rfl)⟩) [0] rfl (by decide) 0 rfl rfl rfl rfl hl.1 rfl (Nat.le_of_ble_eq_true rfl) (kn_dec tX9_sumOf_t2 14 rfl) ⟨(Nat.le_of_ble_eq_true rfl), (Nat.le_of_ble_eq_true rfl)⟩) (fun r3 u4 H locs h I => ?_)
  have I : kn_I D tc (kn_A w0 s.heap.size) s.heap [(kModel, ad_m, _)] _ _ := I
  refine kw_calli (wc := []) (wr := [(kModel, ad_m, _)]) I hA [] [0] rfl rfl (by decide) (by decide) (kn_runS (As := [.int _]) S0 hK hZ hA I ((ctX9_bits h).met _) (kn_cwS 1 hts q6_182 q6_183 q1_10 q6_184 rfl rfl (by decide +kernel) ⟨(Nat.le_of_ble_eq_true rfl), (Nat.le_of_ble_eq_true rfl)⟩) [] rfl (by decide) rfl hl.1 rfl (Nat.le_of_ble_eq_true rfl) (kn_dec tX9_sumOf_t2 15 rfl) ⟨(Nat.le_of_ble_eq_true rfl), (Nat.le_of_ble_eq_true rfl)⟩) (fun r5 u6 H locs h I => ?_)
  have I : kn_I D tc (kn_A w0 s.heap.size) s.heap [(kModel, ad_m, _)] _ _ := I
  refine lv_i2l hx hb (kn_dec tX9_sumOf_t2 16 rfl) rfl ?_
  refine lv_topl (fun x7 ex7 => ?_)
  have h := h x7 ex7
  refine kw_last hx hb hK I 0 rfl 48 14 (List.mem_of_getElem? (i := 37) rfl) ukModel_48 (by unfold vp_in; decide) (kn_dec tX9_sumOf_t2 17 rfl) (fun v_m8 ev_m8 H locs I => ?_)
  have h := h v_m8 ev_m8
  have I : kn_I D tc (kn_A w0 s.heap.size) s.heap [(kModel, ad_m, _)] _ _ := I
  refine lv_aload_n hx hb (kn_dec tX9_sumOf_t2 18 rfl) rfl (lv_at hl 0 rfl) ?_
  refine kw_getl hx hb hts inX9 hown hK I 0 rfl rfl 48 (by decide) rfl (hts _ q5_8) (kn_dec tX9_sumOf_t2 19 rfl) rfl ?_
  refine lv_bipush (v := (13)) hx hb (kn_dec tX9_sumOf_t2 20 rfl) (by decide) ?_
  refine lv_aload_n hx hb (kn_dec tX9_sumOf_t2 21 rfl) rfl (lv_at hl 0 rfl) ?_
  refine kw_getl hx hb hts inX9 hown hK I 0 rfl rfl 1 (by decide) rfl (hts _ q4_201) (kn_dec tX9_sumOf_t2 22 rfl) rfl ?_
  refine lv_bipush (v := (8)) hx hb (kn_dec tX9_sumOf_t2 23 rfl) (by decide) ?_
  refine kw_iald hx hb hK I 0 rfl 1 12 (List.mem_of_getElem? (i := 0) rfl) (by unfold vp_in; decide) (kn_dec tX9_sumOf_t2 24 rfl) ?_
  refine lv_i2l hx hb (kn_dec tX9_sumOf_t2 25 rfl) rfl ?_
  refine lv_topl (fun x9 ex9 => ?_)
  have h := h x9 ex9
  refine kw_last hx hb hK I 0 rfl 48 14 (List.mem_of_getElem? (i := 37) rfl) ukModel_48 (by unfold vp_in; decide) (kn_dec tX9_sumOf_t2 26 rfl) (fun v_m10 ev_m10 H locs I => ?_)
  have h := h v_m10 ev_m10
  have I : kn_I D tc (kn_A w0 s.heap.size) s.heap [(kModel, ad_m, _)] _ _ := I
  refine lv_aload_n hx hb (kn_dec tX9_sumOf_t2 27 rfl) rfl (lv_at hl 0 rfl) ?_
  refine kw_calll (wc := [(kModel, ad_m, _)]) (wr := []) I hA [0] [] rfl rfl (by decide) (by decide) (kn_runV (As := []) S0 hK hZ hA I ((ctX9_wanted h).met _) (kn_cwV 0 hts q6_185 q6_187 q0_72 q1_10 q6_188 rfl rfl (by decide +kernel) ⟨(Nat.le_of_ble_eq_true rfl), (Nat.le_of_ble_eq_true rfl)⟩) [0] rfl (by decide) 0 rfl rfl rfl rfl hl.1 rfl (Nat.le_of_ble_eq_true rfl) (kn_dec tX9_sumOf_t2 28 rfl) ⟨(Nat.le_of_ble_eq_true rfl), (Nat.le_of_ble_eq_true rfl)⟩) (fun r12 u13 H locs h I => ?_)
  have I : kn_I D tc (kn_A w0 s.heap.size) s.heap [(kModel, ad_m, _)] _ _ := I
  exact kw_lret hx hb hr hlocks I _ rfl h (kn_dec tX9_sumOf_t2 29 rfl)
def PX9_sumOf  (v_m : OV) (a1 : Int32) (a2 : Int32) (post : Int64 → OV → Prop) : Prop := ((¬ (v_m.2.1 1 ((11 : Int32)).toNatClampNeg) = ((-1 : Int32)) → (∀ x2 : Int64, x2 = (a1.toInt64) → (∀ v_m3 : OV, v_m3 = sl v_m 48 (vp_updL (v_m.2.2 48) ((0 : Int32)).toNatClampNeg x2) → (∀ x4 : Int64, x4 = (a2.toInt64) → (∀ v_m5 : OV, v_m5 = sl v_m3 48 (vp_updL (v_m3.2.2 48) ((1 : Int32)).toNatClampNeg x4) → (vp_in a2 10 ∧ (∀ x7 : Int64, x7 = ((v_m5.2.1 2 a2.toNatClampNeg).toInt64) → (∀ v_m8 : OV, v_m8 = sl v_m5 48 (vp_updL (v_m5.2.2 48) ((2 : Int32)).toNatClampNeg x7) → (vp_in a2 10 ∧ (∀ x10 : Int64, x10 = ((v_m8.2.1 3 a2.toNatClampNeg).toInt64) → (∀ v_m11 : OV, v_m11 = sl v_m8 48 (vp_updL (v_m8.2.2 48) ((3 : Int32)).toNatClampNeg x10) → (vp_in a2 10 ∧ (∀ x13 : Int64, x13 = ((v_m11.2.1 4 a2.toNatClampNeg).toInt64) → (∀ v_m14 : OV, v_m14 = sl v_m11 48 (vp_updL (v_m11.2.2 48) ((4 : Int32)).toNatClampNeg x13) → (vp_in a2 10 ∧ (∀ x16 : Int64, x16 = ((v_m14.2.1 5 a2.toNatClampNeg).toInt64) → (∀ v_m17 : OV, v_m17 = sl v_m14 48 (vp_updL (v_m14.2.2 48) ((5 : Int32)).toNatClampNeg x16) → (∀ x18 : Int64, x18 = ((v_m17.2.1 1 ((0 : Int32)).toNatClampNeg).toInt64) → (∀ v_m19 : OV, v_m19 = sl v_m17 48 (vp_updL (v_m17.2.2 48) ((6 : Int32)).toNatClampNeg x18) → (vp_in a2 10 ∧ (PX9_apart (v_m19.2.1 2 a2.toNatClampNeg) (v_m19.2.1 1 ((0 : Int32)).toNatClampNeg) (fun r21 => (∀ x23 : Int64, x23 = (r21.toInt64) → (∀ v_m24 : OV, v_m24 = sl v_m19 48 (vp_updL (v_m19.2.2 48) ((7 : Int32)).toNatClampNeg x23) → (PX9_minutesOf v_m24 a1 a2 (fun r25 => (∀ x27 : Int64, x27 = (r25.toInt64) → (∀ v_m28 : OV, v_m28 = sl v_m24 48 (vp_updL (v_m24.2.2 48) ((8 : Int32)).toNatClampNeg x27) → (vp_in a1 4 ∧ (∀ x30 : Int64, x30 = ((v_m28.2.1 7 a1.toNatClampNeg).toInt64) → (∀ v_m31 : OV, v_m31 = sl v_m28 48 (vp_updL (v_m28.2.2 48) ((9 : Int32)).toNatClampNeg x30) → (vp_in a1 4 ∧ (∀ x33 : Int64, x33 = ((v_m31.2.1 12 a1.toNatClampNeg).toInt64) → (∀ v_m34 : OV, v_m34 = sl v_m31 48 (vp_updL (v_m31.2.2 48) ((10 : Int32)).toNatClampNeg x33) → (vp_in a1 4 ∧ (PX9_has (v_m34.2.1 13 a1.toNatClampNeg) a2 (fun r36 => ((r36 = ((0 : Int32)) → PX9_sumOf_b200 post ((11 : Int32)) ((0 : Int64)) v_m34) ∧ (¬ r36 = ((0 : Int32)) → PX9_sumOf_b200 post ((11 : Int32)) ((1 : Int64)) v_m34))))))))))))))))))))))))))))))))))))))) ∧ ((v_m.2.1 1 ((11 : Int32)).toNatClampNeg) = ((-1 : Int32)) → (vp_in a2 10 ∧ (PX9_apart (v_m.2.1 2 a2.toNatClampNeg) (v_m.2.1 1 ((0 : Int32)).toNatClampNeg) (fun r40 => post ((-r40).toInt64) v_m)))))
set_option maxRecDepth 100000 in
set_option maxHeartbeats 1000000 in
theorem ctX9_sumOf {l : Launch} {D : va_G} {tc : Nat → ClassId} {Z : (Nat → Nat) × (Nat → Nat)}  {ad_m : Nat → Nat} {v_m : OV} {a1 : Int32} {a2 : Int32}    {post : Int64 → OV → Prop} (h : PX9_sumOf  v_m a1 a2 post) : CTl l D tc Z yX9_sumOf (Cond.code yX9_sumOf cX9_sumOf 3 (some .long) :: kn_all) rmX9_sumOf 0 0 [.ref (ad_m 0), .int a1, .int a2] [(kModel, ad_m, v_m)] (fun (u : OV) => [(kModel, ad_m, u)]) (fun (r : Int64) (u : OV) => post r u) := by
  refine kn_ofl (cc := cX9_sumOf) (nL := 3) (ret := (some .long)) (lv := [(0, .ref (ad_m 0)), (1, .int a1), (2, .int a2)]) (by decide) (Nat.le_of_ble_eq_true rfl) rfl (fun p e s m below meth c ls X I hl _ => ?_)
  obtain ⟨S0, hr, hlocks, hK, hZ, hA⟩ := id X
  obtain ⟨hx, hb, hml, hown, hts⟩ := id S0
  unfold PX9_sumOf at h
  refine lv_aload_n hx hb (kn_dec tX9_sumOf_t0 0 rfl) rfl (lv_at hl 0 rfl) ?_
  refine kw_getl hx hb hts inX9 hown hK I 0 rfl rfl 1 (by decide) rfl (hts _ q4_201) (kn_dec tX9_sumOf_t0 1 rfl) rfl ?_
  refine lv_bipush (v := (11)) hx hb (kn_dec tX9_sumOf_t0 2 rfl) (by decide) ?_
  refine kw_iald hx hb hK I 0 rfl 1 12 (List.mem_of_getElem? (i := 0) rfl) (by unfold vp_in; decide) (kn_dec tX9_sumOf_t0 3 rfl) ?_
  refine lv_iconst (v := (-1)) hx hb (kn_dec tX9_sumOf_t0 4 rfl) (by decide) ?_
  refine lv_icmp_ne (tgt := 29) hx hb (kn_dec tX9_sumOf_t0 5 rfl) (by decide) (fun c1 => ?_) (fun c1 => ?_)
  · have h := h.1 c1
    refine lv_aload_n hx hb (kn_dec tX9_sumOf_t0 18 rfl) rfl (lv_at hl 0 rfl) ?_
    refine kw_getl hx hb hts inX9 hown hK I 0 rfl rfl 48 (by decide) rfl (hts _ q5_8) (kn_dec tX9_sumOf_t0 19 rfl) rfl ?_
    refine lv_iconst (v := (0)) hx hb (kn_dec tX9_sumOf_t0 20 rfl) (by decide) ?_
    refine lv_iload_n hx hb (kn_dec tX9_sumOf_t0 21 rfl) rfl (lv_at hl 1 rfl) ?_
    refine lv_i2l hx hb (kn_dec tX9_sumOf_t0 22 rfl) rfl ?_
    refine lv_topl (fun x2 ex2 => ?_)
    have h := h x2 ex2
    refine kw_last hx hb hK I 0 rfl 48 14 (List.mem_of_getElem? (i := 37) rfl) ukModel_48 (by unfold vp_in; decide) (kn_dec tX9_sumOf_t0 23 rfl) (fun v_m3 ev_m3 H locs I => ?_)
    have h := h v_m3 ev_m3
    have I : kn_I D tc (kn_A _ s.heap.size) s.heap [(kModel, ad_m, _)] _ _ := I
    refine lv_aload_n hx hb (kn_dec tX9_sumOf_t0 24 rfl) rfl (lv_at hl 0 rfl) ?_
    refine kw_getl hx hb hts inX9 hown hK I 0 rfl rfl 48 (by decide) rfl (hts _ q5_8) (kn_dec tX9_sumOf_t0 25 rfl) rfl ?_
    refine lv_iconst (v := (1)) hx hb (kn_dec tX9_sumOf_t0 26 rfl) (by decide) ?_
    refine lv_iload_n hx hb (kn_dec tX9_sumOf_t0 27 rfl) rfl (lv_at hl 2 rfl) ?_
    refine lv_i2l hx hb (kn_dec tX9_sumOf_t0 28 rfl) rfl ?_
    refine lv_topl (fun x4 ex4 => ?_)
    have h := h x4 ex4
    refine kw_last hx hb hK I 0 rfl 48 14 (List.mem_of_getElem? (i := 37) rfl) ukModel_48 (by unfold vp_in; decide) (kn_dec tX9_sumOf_t0 29 rfl) (fun v_m5 ev_m5 H locs I => ?_)
    have h := h v_m5 ev_m5
    have I : kn_I D tc (kn_A _ s.heap.size) s.heap [(kModel, ad_m, _)] _ _ := I
    refine lv_aload_n hx hb (kn_dec tX9_sumOf_t0 30 rfl) rfl (lv_at hl 0 rfl) ?_
    refine kw_getl hx hb hts inX9 hown hK I 0 rfl rfl 48 (by decide) rfl (hts _ q5_8) (kn_dec tX9_sumOf_t0 31 rfl) rfl ?_
    refine lv_iconst (v := (2)) hx hb (kn_dec tX9_sumOf_t0 32 rfl) (by decide) ?_
    refine lv_aload_n hx hb (kn_dec tX9_sumOf_t0 33 rfl) rfl (lv_at hl 0 rfl) ?_
    refine kw_getl hx hb hts inX9 hown hK I 0 rfl rfl 2 (by decide) rfl (hts _ q4_202) (kn_dec tX9_sumOf_t0 34 rfl) rfl ?_
    refine lv_iload_n hx hb (kn_dec tX9_sumOf_t0 35 rfl) rfl (lv_at hl 2 rfl) ?_
    obtain ⟨hs6, h⟩ := h
    refine kw_iald hx hb hK I 0 rfl 2 10 (List.mem_of_getElem? (i := 1) rfl) hs6 (kn_dec tX9_sumOf_t0 36 rfl) ?_
    refine lv_i2l hx hb (kn_dec tX9_sumOf_t0 37 rfl) rfl ?_
    refine lv_topl (fun x7 ex7 => ?_)
    have h := h x7 ex7
    refine kw_last hx hb hK I 0 rfl 48 14 (List.mem_of_getElem? (i := 37) rfl) ukModel_48 (by unfold vp_in; decide) (kn_dec tX9_sumOf_t0 38 rfl) (fun v_m8 ev_m8 H locs I => ?_)
    have h := h v_m8 ev_m8
    have I : kn_I D tc (kn_A _ s.heap.size) s.heap [(kModel, ad_m, _)] _ _ := I
    refine lv_aload_n hx hb (kn_dec tX9_sumOf_t0 39 rfl) rfl (lv_at hl 0 rfl) ?_
    refine kw_getl hx hb hts inX9 hown hK I 0 rfl rfl 48 (by decide) rfl (hts _ q5_8) (kn_dec tX9_sumOf_t0 40 rfl) rfl ?_
    refine lv_iconst (v := (3)) hx hb (kn_dec tX9_sumOf_t0 41 rfl) (by decide) ?_
    refine lv_aload_n hx hb (kn_dec tX9_sumOf_t0 42 rfl) rfl (lv_at hl 0 rfl) ?_
    refine kw_getl hx hb hts inX9 hown hK I 0 rfl rfl 3 (by decide) rfl (hts _ q4_203) (kn_dec tX9_sumOf_t0 43 rfl) rfl ?_
    refine lv_iload_n hx hb (kn_dec tX9_sumOf_t0 44 rfl) rfl (lv_at hl 2 rfl) ?_
    obtain ⟨hs9, h⟩ := h
    refine kw_iald hx hb hK I 0 rfl 3 10 (List.mem_of_getElem? (i := 2) rfl) hs9 (kn_dec tX9_sumOf_t0 45 rfl) ?_
    refine lv_i2l hx hb (kn_dec tX9_sumOf_t0 46 rfl) rfl ?_
    refine lv_topl (fun x10 ex10 => ?_)
    have h := h x10 ex10
    refine kw_last hx hb hK I 0 rfl 48 14 (List.mem_of_getElem? (i := 37) rfl) ukModel_48 (by unfold vp_in; decide) (kn_dec tX9_sumOf_t0 47 rfl) (fun v_m11 ev_m11 H locs I => ?_)
    have h := h v_m11 ev_m11
    have I : kn_I D tc (kn_A _ s.heap.size) s.heap [(kModel, ad_m, _)] _ _ := I
    refine lv_aload_n hx hb (kn_dec tX9_sumOf_t0 48 rfl) rfl (lv_at hl 0 rfl) ?_
    refine kw_getl hx hb hts inX9 hown hK I 0 rfl rfl 48 (by decide) rfl (hts _ q5_8) (kn_dec tX9_sumOf_t0 49 rfl) rfl ?_
    refine lv_iconst (v := (4)) hx hb (kn_dec tX9_sumOf_t0 50 rfl) (by decide) ?_
    refine lv_aload_n hx hb (kn_dec tX9_sumOf_t0 51 rfl) rfl (lv_at hl 0 rfl) ?_
    refine kw_getl hx hb hts inX9 hown hK I 0 rfl rfl 4 (by decide) rfl (hts _ q4_204) (kn_dec tX9_sumOf_t0 52 rfl) rfl ?_
    refine lv_iload_n hx hb (kn_dec tX9_sumOf_t0 53 rfl) rfl (lv_at hl 2 rfl) ?_
    obtain ⟨hs12, h⟩ := h
    refine kw_iald hx hb hK I 0 rfl 4 10 (List.mem_of_getElem? (i := 3) rfl) hs12 (kn_dec tX9_sumOf_t0 54 rfl) ?_
    refine lv_i2l hx hb (kn_dec tX9_sumOf_t0 55 rfl) rfl ?_
    refine lv_topl (fun x13 ex13 => ?_)
    have h := h x13 ex13
    refine kw_last hx hb hK I 0 rfl 48 14 (List.mem_of_getElem? (i := 37) rfl) ukModel_48 (by unfold vp_in; decide) (kn_dec tX9_sumOf_t0 56 rfl) (fun v_m14 ev_m14 H locs I => ?_)
    have h := h v_m14 ev_m14
    have I : kn_I D tc (kn_A _ s.heap.size) s.heap [(kModel, ad_m, _)] _ _ := I
    refine lv_aload_n hx hb (kn_dec tX9_sumOf_t0 57 rfl) rfl (lv_at hl 0 rfl) ?_
    refine kw_getl hx hb hts inX9 hown hK I 0 rfl rfl 48 (by decide) rfl (hts _ q5_8) (kn_dec tX9_sumOf_t0 58 rfl) rfl ?_
    refine lv_iconst (v := (5)) hx hb (kn_dec tX9_sumOf_t0 59 rfl) (by decide) ?_
    refine lv_aload_n hx hb (kn_dec tX9_sumOf_t1 0 rfl) rfl (lv_at hl 0 rfl) ?_
    refine kw_getl hx hb hts inX9 hown hK I 0 rfl rfl 5 (by decide) rfl (hts _ q4_205) (kn_dec tX9_sumOf_t1 1 rfl) rfl ?_
    refine lv_iload_n hx hb (kn_dec tX9_sumOf_t1 2 rfl) rfl (lv_at hl 2 rfl) ?_
    obtain ⟨hs15, h⟩ := h
    refine kw_iald hx hb hK I 0 rfl 5 10 (List.mem_of_getElem? (i := 4) rfl) hs15 (kn_dec tX9_sumOf_t1 3 rfl) ?_
    refine lv_i2l hx hb (kn_dec tX9_sumOf_t1 4 rfl) rfl ?_
    refine lv_topl (fun x16 ex16 => ?_)
    have h := h x16 ex16
    refine kw_last hx hb hK I 0 rfl 48 14 (List.mem_of_getElem? (i := 37) rfl) ukModel_48 (by unfold vp_in; decide) (kn_dec tX9_sumOf_t1 5 rfl) (fun v_m17 ev_m17 H locs I => ?_)
    have h := h v_m17 ev_m17
    have I : kn_I D tc (kn_A _ s.heap.size) s.heap [(kModel, ad_m, _)] _ _ := I
    refine lv_aload_n hx hb (kn_dec tX9_sumOf_t1 6 rfl) rfl (lv_at hl 0 rfl) ?_
    refine kw_getl hx hb hts inX9 hown hK I 0 rfl rfl 48 (by decide) rfl (hts _ q5_8) (kn_dec tX9_sumOf_t1 7 rfl) rfl ?_
    refine lv_bipush (v := (6)) hx hb (kn_dec tX9_sumOf_t1 8 rfl) (by decide) ?_
    refine lv_aload_n hx hb (kn_dec tX9_sumOf_t1 9 rfl) rfl (lv_at hl 0 rfl) ?_
    refine kw_getl hx hb hts inX9 hown hK I 0 rfl rfl 1 (by decide) rfl (hts _ q4_201) (kn_dec tX9_sumOf_t1 10 rfl) rfl ?_
    refine lv_iconst (v := (0)) hx hb (kn_dec tX9_sumOf_t1 11 rfl) (by decide) ?_
    refine kw_iald hx hb hK I 0 rfl 1 12 (List.mem_of_getElem? (i := 0) rfl) (by unfold vp_in; decide) (kn_dec tX9_sumOf_t1 12 rfl) ?_
    refine lv_i2l hx hb (kn_dec tX9_sumOf_t1 13 rfl) rfl ?_
    refine lv_topl (fun x18 ex18 => ?_)
    have h := h x18 ex18
    refine kw_last hx hb hK I 0 rfl 48 14 (List.mem_of_getElem? (i := 37) rfl) ukModel_48 (by unfold vp_in; decide) (kn_dec tX9_sumOf_t1 14 rfl) (fun v_m19 ev_m19 H locs I => ?_)
    have h := h v_m19 ev_m19
    have I : kn_I D tc (kn_A _ s.heap.size) s.heap [(kModel, ad_m, _)] _ _ := I
    refine lv_aload_n hx hb (kn_dec tX9_sumOf_t1 15 rfl) rfl (lv_at hl 0 rfl) ?_
    refine kw_getl hx hb hts inX9 hown hK I 0 rfl rfl 48 (by decide) rfl (hts _ q5_8) (kn_dec tX9_sumOf_t1 16 rfl) rfl ?_
    refine lv_bipush (v := (7)) hx hb (kn_dec tX9_sumOf_t1 17 rfl) (by decide) ?_
    refine lv_aload_n hx hb (kn_dec tX9_sumOf_t1 18 rfl) rfl (lv_at hl 0 rfl) ?_
    refine kw_getl hx hb hts inX9 hown hK I 0 rfl rfl 2 (by decide) rfl (hts _ q4_202) (kn_dec tX9_sumOf_t1 19 rfl) rfl ?_
    refine lv_iload_n hx hb (kn_dec tX9_sumOf_t1 20 rfl) rfl (lv_at hl 2 rfl) ?_
    obtain ⟨hs20, h⟩ := h
    refine kw_iald hx hb hK I 0 rfl 2 10 (List.mem_of_getElem? (i := 1) rfl) hs20 (kn_dec tX9_sumOf_t1 21 rfl) ?_
    refine lv_aload_n hx hb (kn_dec tX9_sumOf_t1 22 rfl) rfl (lv_at hl 0 rfl) ?_
    refine kw_getl hx hb hts inX9 hown hK I 0 rfl rfl 1 (by decide) rfl (hts _ q4_201) (kn_dec tX9_sumOf_t1 23 rfl) rfl ?_
    refine lv_iconst (v := (0)) hx hb (kn_dec tX9_sumOf_t1 24 rfl) (by decide) ?_
    refine kw_iald hx hb hK I 0 rfl 1 12 (List.mem_of_getElem? (i := 0) rfl) (by unfold vp_in; decide) (kn_dec tX9_sumOf_t1 25 rfl) ?_
    refine kw_calli (wc := []) (wr := [(kModel, ad_m, _)]) I hA [] [0] rfl rfl (by decide) (by decide) (kn_runS (As := [.int _, .int _]) S0 hK hZ hA I ((ctX9_apart h).met _) (kn_cwS 2 hts q6_171 q6_172 q1_10 q6_173 rfl rfl (by decide +kernel) ⟨(Nat.le_of_ble_eq_true rfl), (Nat.le_of_ble_eq_true rfl)⟩) [] rfl (by decide) rfl hl.1 rfl (Nat.le_of_ble_eq_true rfl) (kn_dec tX9_sumOf_t1 26 rfl) ⟨(Nat.le_of_ble_eq_true rfl), (Nat.le_of_ble_eq_true rfl)⟩) (fun r21 u22 H locs h I => ?_)
    have I : kn_I D tc (kn_A _ s.heap.size) s.heap [(kModel, ad_m, _)] _ _ := I
    refine lv_i2l hx hb (kn_dec tX9_sumOf_t1 27 rfl) rfl ?_
    refine lv_topl (fun x23 ex23 => ?_)
    have h := h x23 ex23
    refine kw_last hx hb hK I 0 rfl 48 14 (List.mem_of_getElem? (i := 37) rfl) ukModel_48 (by unfold vp_in; decide) (kn_dec tX9_sumOf_t1 28 rfl) (fun v_m24 ev_m24 H locs I => ?_)
    have h := h v_m24 ev_m24
    have I : kn_I D tc (kn_A _ s.heap.size) s.heap [(kModel, ad_m, _)] _ _ := I
    refine lv_aload_n hx hb (kn_dec tX9_sumOf_t1 29 rfl) rfl (lv_at hl 0 rfl) ?_
    refine kw_getl hx hb hts inX9 hown hK I 0 rfl rfl 48 (by decide) rfl (hts _ q5_8) (kn_dec tX9_sumOf_t1 30 rfl) rfl ?_
    refine lv_bipush (v := (8)) hx hb (kn_dec tX9_sumOf_t1 31 rfl) (by decide) ?_
    refine lv_aload_n hx hb (kn_dec tX9_sumOf_t1 32 rfl) rfl (lv_at hl 0 rfl) ?_
    refine lv_iload_n hx hb (kn_dec tX9_sumOf_t1 33 rfl) rfl (lv_at hl 1 rfl) ?_
    refine lv_iload_n hx hb (kn_dec tX9_sumOf_t1 34 rfl) rfl (lv_at hl 2 rfl) ?_
    refine kw_calli (wc := [(kModel, ad_m, _)]) (wr := []) I hA [0] [] rfl rfl (by decide) (by decide) (kn_runV (As := [.int _, .int _]) S0 hK hZ hA I ((ctX9_minutesOf h).met _) (kn_cwV 2 hts q6_174 q6_176 q0_70 q1_10 q6_177 rfl rfl (by decide +kernel) ⟨(Nat.le_of_ble_eq_true rfl), (Nat.le_of_ble_eq_true rfl)⟩) [0] rfl (by decide) 0 rfl rfl rfl rfl hl.1 rfl (Nat.le_of_ble_eq_true rfl) (kn_dec tX9_sumOf_t1 35 rfl) ⟨(Nat.le_of_ble_eq_true rfl), (Nat.le_of_ble_eq_true rfl)⟩) (fun r25 u26 H locs h I => ?_)
    have I : kn_I D tc (kn_A _ s.heap.size) s.heap [(kModel, ad_m, _)] _ _ := I
    refine lv_i2l hx hb (kn_dec tX9_sumOf_t1 36 rfl) rfl ?_
    refine lv_topl (fun x27 ex27 => ?_)
    have h := h x27 ex27
    refine kw_last hx hb hK I 0 rfl 48 14 (List.mem_of_getElem? (i := 37) rfl) ukModel_48 (by unfold vp_in; decide) (kn_dec tX9_sumOf_t1 37 rfl) (fun v_m28 ev_m28 H locs I => ?_)
    have h := h v_m28 ev_m28
    have I : kn_I D tc (kn_A _ s.heap.size) s.heap [(kModel, ad_m, _)] _ _ := I
    refine lv_aload_n hx hb (kn_dec tX9_sumOf_t1 38 rfl) rfl (lv_at hl 0 rfl) ?_
    refine kw_getl hx hb hts inX9 hown hK I 0 rfl rfl 48 (by decide) rfl (hts _ q5_8) (kn_dec tX9_sumOf_t1 39 rfl) rfl ?_
    refine lv_bipush (v := (9)) hx hb (kn_dec tX9_sumOf_t1 40 rfl) (by decide) ?_
    refine lv_aload_n hx hb (kn_dec tX9_sumOf_t1 41 rfl) rfl (lv_at hl 0 rfl) ?_
    refine kw_getl hx hb hts inX9 hown hK I 0 rfl rfl 7 (by decide) rfl (hts _ q4_207) (kn_dec tX9_sumOf_t1 42 rfl) rfl ?_
    refine lv_iload_n hx hb (kn_dec tX9_sumOf_t1 43 rfl) rfl (lv_at hl 1 rfl) ?_
    obtain ⟨hs29, h⟩ := h
    refine kw_iald hx hb hK I 0 rfl 7 4 (List.mem_of_getElem? (i := 6) rfl) hs29 (kn_dec tX9_sumOf_t1 44 rfl) ?_
    refine lv_i2l hx hb (kn_dec tX9_sumOf_t1 45 rfl) rfl ?_
    refine lv_topl (fun x30 ex30 => ?_)
    have h := h x30 ex30
    refine kw_last hx hb hK I 0 rfl 48 14 (List.mem_of_getElem? (i := 37) rfl) ukModel_48 (by unfold vp_in; decide) (kn_dec tX9_sumOf_t1 46 rfl) (fun v_m31 ev_m31 H locs I => ?_)
    have h := h v_m31 ev_m31
    have I : kn_I D tc (kn_A _ s.heap.size) s.heap [(kModel, ad_m, _)] _ _ := I
    refine lv_aload_n hx hb (kn_dec tX9_sumOf_t1 47 rfl) rfl (lv_at hl 0 rfl) ?_
    refine kw_getl hx hb hts inX9 hown hK I 0 rfl rfl 48 (by decide) rfl (hts _ q5_8) (kn_dec tX9_sumOf_t1 48 rfl) rfl ?_
    refine lv_bipush (v := (10)) hx hb (kn_dec tX9_sumOf_t1 49 rfl) (by decide) ?_
    refine lv_aload_n hx hb (kn_dec tX9_sumOf_t1 50 rfl) rfl (lv_at hl 0 rfl) ?_
    refine kw_getl hx hb hts inX9 hown hK I 0 rfl rfl 12 (by decide) rfl (hts _ q4_212) (kn_dec tX9_sumOf_t1 51 rfl) rfl ?_
    refine lv_iload_n hx hb (kn_dec tX9_sumOf_t1 52 rfl) rfl (lv_at hl 1 rfl) ?_
    obtain ⟨hs32, h⟩ := h
    refine kw_iald hx hb hK I 0 rfl 12 4 (List.mem_of_getElem? (i := 11) rfl) hs32 (kn_dec tX9_sumOf_t1 53 rfl) ?_
    refine lv_i2l hx hb (kn_dec tX9_sumOf_t1 54 rfl) rfl ?_
    refine lv_topl (fun x33 ex33 => ?_)
    have h := h x33 ex33
    refine kw_last hx hb hK I 0 rfl 48 14 (List.mem_of_getElem? (i := 37) rfl) ukModel_48 (by unfold vp_in; decide) (kn_dec tX9_sumOf_t1 55 rfl) (fun v_m34 ev_m34 H locs I => ?_)
    have h := h v_m34 ev_m34
    have I : kn_I D tc (kn_A _ s.heap.size) s.heap [(kModel, ad_m, _)] _ _ := I
    refine lv_aload_n hx hb (kn_dec tX9_sumOf_t1 56 rfl) rfl (lv_at hl 0 rfl) ?_
    refine kw_getl hx hb hts inX9 hown hK I 0 rfl rfl 48 (by decide) rfl (hts _ q5_8) (kn_dec tX9_sumOf_t1 57 rfl) rfl ?_
    refine lv_bipush (v := (11)) hx hb (kn_dec tX9_sumOf_t1 58 rfl) (by decide) ?_
    refine lv_aload_n hx hb (kn_dec tX9_sumOf_t1 59 rfl) rfl (lv_at hl 0 rfl) ?_
    refine kw_getl hx hb hts inX9 hown hK I 0 rfl rfl 13 (by decide) rfl (hts _ q4_213) (kn_dec tX9_sumOf_t2 0 rfl) rfl ?_
    refine lv_iload_n hx hb (kn_dec tX9_sumOf_t2 1 rfl) rfl (lv_at hl 1 rfl) ?_
    obtain ⟨hs35, h⟩ := h
    refine kw_iald hx hb hK I 0 rfl 13 4 (List.mem_of_getElem? (i := 12) rfl) hs35 (kn_dec tX9_sumOf_t2 2 rfl) ?_
    refine lv_iload_n hx hb (kn_dec tX9_sumOf_t2 3 rfl) rfl (lv_at hl 2 rfl) ?_
    refine kw_calli (wc := []) (wr := [(kModel, ad_m, _)]) I hA [] [0] rfl rfl (by decide) (by decide) (kn_runS (As := [.int _, .int _]) S0 hK hZ hA I ((ctX9_has h).met _) (kn_cwS 2 hts q6_112 q6_113 q1_10 q6_114 rfl rfl (by decide +kernel) ⟨(Nat.le_of_ble_eq_true rfl), (Nat.le_of_ble_eq_true rfl)⟩) [] rfl (by decide) rfl hl.1 rfl (Nat.le_of_ble_eq_true rfl) (kn_dec tX9_sumOf_t2 4 rfl) ⟨(Nat.le_of_ble_eq_true rfl), (Nat.le_of_ble_eq_true rfl)⟩) (fun r36 u37 H locs h I => ?_)
    obtain ⟨hz_r36, h⟩ := h
    have I : kn_I D tc (kn_A _ s.heap.size) s.heap [(kModel, ad_m, _)] _ _ := I
    refine lv_if_eq (tgt := 199) hx hb (kn_dec tX9_sumOf_t2 5 rfl) (by decide) (fun c38 => ?_) (fun c38 => ?_)
    · have h := h.1 c38
      refine lv_lconst (v := 0) hx hb (kn_dec tX9_sumOf_t2 8 rfl) (by decide) ?_
      exact wX9_sumOf_b200 X _ _ _ _ _ _  I (lv_sub hl [0] rfl) h
    · have h := h.2 c38
      refine lv_lconst (v := 1) hx hb (kn_dec tX9_sumOf_t2 6 rfl) (by decide) ?_
      refine lv_goto (tgt := 200) hx hb (kn_dec tX9_sumOf_t2 7 rfl) (by decide) ?_
      exact wX9_sumOf_b200 X _ _ _ _ _ _  I (lv_sub hl [0] rfl) h
  · have h := h.2 c1
    refine lv_aload_n hx hb (kn_dec tX9_sumOf_t0 6 rfl) rfl (lv_at hl 0 rfl) ?_
    refine kw_getl hx hb hts inX9 hown hK I 0 rfl rfl 2 (by decide) rfl (hts _ q4_202) (kn_dec tX9_sumOf_t0 7 rfl) rfl ?_
    refine lv_iload_n hx hb (kn_dec tX9_sumOf_t0 8 rfl) rfl (lv_at hl 2 rfl) ?_
    obtain ⟨hs39, h⟩ := h
    refine kw_iald hx hb hK I 0 rfl 2 10 (List.mem_of_getElem? (i := 1) rfl) hs39 (kn_dec tX9_sumOf_t0 9 rfl) ?_
    refine lv_aload_n hx hb (kn_dec tX9_sumOf_t0 10 rfl) rfl (lv_at hl 0 rfl) ?_
    refine kw_getl hx hb hts inX9 hown hK I 0 rfl rfl 1 (by decide) rfl (hts _ q4_201) (kn_dec tX9_sumOf_t0 11 rfl) rfl ?_
    refine lv_iconst (v := (0)) hx hb (kn_dec tX9_sumOf_t0 12 rfl) (by decide) ?_
    refine kw_iald hx hb hK I 0 rfl 1 12 (List.mem_of_getElem? (i := 0) rfl) (by unfold vp_in; decide) (kn_dec tX9_sumOf_t0 13 rfl) ?_
    refine kw_calli (wc := []) (wr := [(kModel, ad_m, _)]) I hA [] [0] rfl rfl (by decide) (by decide) (kn_runS (As := [.int _, .int _]) S0 hK hZ hA I ((ctX9_apart h).met _) (kn_cwS 2 hts q6_171 q6_172 q1_10 q6_173 rfl rfl (by decide +kernel) ⟨(Nat.le_of_ble_eq_true rfl), (Nat.le_of_ble_eq_true rfl)⟩) [] rfl (by decide) rfl hl.1 rfl (Nat.le_of_ble_eq_true rfl) (kn_dec tX9_sumOf_t0 14 rfl) ⟨(Nat.le_of_ble_eq_true rfl), (Nat.le_of_ble_eq_true rfl)⟩) (fun r40 u41 H locs h I => ?_)
    have I : kn_I D tc (kn_A _ s.heap.size) s.heap [(kModel, ad_m, _)] _ _ := I
    refine lv_ineg hx hb (kn_dec tX9_sumOf_t0 15 rfl) ?_
    refine lv_i2l hx hb (kn_dec tX9_sumOf_t0 16 rfl) rfl ?_
    exact kw_lret hx hb hr hlocks I _ rfl h (kn_dec tX9_sumOf_t0 17 rfl)

end
