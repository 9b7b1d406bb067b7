section
variable {p : Program} {l : Launch} {e : Env} {s : State} {m : MethodId} {args : Array Value} {below : List Frame} {meth : Method} {c : Code} {D : va_G} {tc : Nat → ClassId} {Z : (Nat → Nat) × (Nat → Nat)} {w0 : List CH}

/-! X9_laysLooking -/
abbrev rmX9_laysLooking : Room := { frames := 5, cells := 0, slots := 0, locals := 115 }
def PX9_laysLooking_L57  (K48 : Int32 → Int32 → OV → Prop) (post : Int32 → OV → Prop) : Nat → Int32 → Int32 → Int32 → Int32 → OV → Prop
  | 0, _, _, _, _, _ => False
  | n + 1, y1, y2, y3, y4, v_m => (((v_m.2.1 1 ((3 : Int32)).toNatClampNeg) ≤ y4 → (PX9_minutesOf v_m y1 y3 (fun r2 => (vp_in y1 4 ∧ ((((v_m.1 54) + r2) ≤ (v_m.2.1 8 y1.toNatClampNeg) → (∀ x6 : Int32, x6 = ((v_m.1 54) + r2) → (∀ v_m7 : OV, v_m7 = si v_m 54 x6 → (vp_in (v_m7.1 53) 10 ∧ (∀ v_m9 : OV, v_m9 = sa v_m7 51 (upd (v_m7.2.1 51) (v_m7.1 53).toNatClampNeg y3) → (∀ x10 : Int32, x10 = ((v_m9.1 53) + ((1 : Int32))) → (∀ v_m11 : OV, v_m11 = si v_m9 53 x10 → (∀ x12 : Int32, x12 = (y2 &&& ((((1 : Int32)) <<< (y3 &&& 31)) ^^^ ((-1 : Int32)))) → ((¬ y3 = (v_m11.2.1 1 ((7 : Int32)).toNatClampNeg) → K48 y1 x12 v_m11) ∧ (y3 = (v_m11.2.1 1 ((7 : Int32)).toNatClampNeg) → post ((1 : Int32)) v_m11)))))))))) ∧ (¬ ((v_m.1 54) + r2) ≤ (v_m.2.1 8 y1.toNatClampNeg) → post ((0 : Int32)) v_m)))))) ∧ (¬ (v_m.2.1 1 ((3 : Int32)).toNatClampNeg) ≤ y4 → (PX9_has y2 y4 (fun r14 => ((r14 = ((0 : Int32)) → (∀ x17 : Int32, x17 = y4 + (1 : Int32) → PX9_laysLooking_L57 K48 post n y1 y2 y3 x17 v_m)) ∧ (¬ r14 = ((0 : Int32)) → ((y3 = ((-1 : Int32)) → (∀ x19 : Int32, x19 = y4 + (1 : Int32) → PX9_laysLooking_L57 K48 post n y1 y2 y4 x19 v_m)) ∧ (¬ y3 = ((-1 : Int32)) → (vp_in y4 10 ∧ (vp_in y3 10 ∧ (((lg_cmp (v_m.2.2 52 y4.toNatClampNeg) (v_m.2.2 52 y3.toNatClampNeg)) ≤ ((0 : Int32)) → (∀ x23 : Int32, x23 = y4 + (1 : Int32) → PX9_laysLooking_L57 K48 post n y1 y2 y3 x23 v_m)) ∧ (¬ (lg_cmp (v_m.2.2 52 y4.toNatClampNeg) (v_m.2.2 52 y3.toNatClampNeg)) ≤ ((0 : Int32)) → (∀ x24 : Int32, x24 = y4 + (1 : Int32) → PX9_laysLooking_L57 K48 post n y1 y2 y4 x24 v_m)))))))))))))
set_option maxRecDepth 100000 in
set_option maxHeartbeats 1000000 in
theorem wX9_laysLooking_L57  {K48 : Int32 → Int32 → OV → Prop} {post : Int32 → OV → Prop} {ad_m : Nat → Nat} (X : kn_X p s m args meth c cX9_laysLooking 5 (some .boolean) RX9 kn_all D tc Z (kn_A w0 s.heap.size))   (hK48 : ∀ (H : Heap) (locs : List Loc) (ls : Array Slot) (y1 : Int32) (y2 : Int32) (v_m : OV), kn_I D tc (kn_A w0 s.heap.size) s.heap [(kModel, ad_m, v_m)] H locs → lv_has ls 5 [(0, .ref (ad_m 0)), (1, .int y1), (2, .int y2)] → K48 y1 y2 v_m → W p l e rmX9_laysLooking s m args below meth c H locs 0 0 (kn_Qi D tc w0 (fun (u : OV) => [(kModel, ad_m, u)]) (fun (r : Int32) (u : OV) => (r = 0 ∨ r = 1) ∧ post r u) below args s 0 0) (F0 m 48 ls [])) : ∀ n : Nat, ∀ (H : Heap) (locs : List Loc) (ls : Array Slot) (y1 : Int32) (y2 : Int32) (y3 : Int32) (y4 : Int32) (v_m : OV), kn_I D tc (kn_A w0 s.heap.size) s.heap [(kModel, ad_m, v_m)] H locs → lv_has ls 5 [(0, .ref (ad_m 0)), (1, .int y1), (2, .int y2), (3, .int y3), (4, .int y4)] → PX9_laysLooking_L57 K48 post n y1 y2 y3 y4 v_m → W p l e rmX9_laysLooking s m args below meth c H locs 0 0 (kn_Qi D tc w0 (fun (u : OV) => [(kModel, ad_m, u)]) (fun (r : Int32) (u : OV) => (r = 0 ∨ r = 1) ∧ post r u) below args s 0 0) (F0 m 57 ls []) := by
  obtain ⟨S0, hr, hlocks, hK, hZ, hA⟩ := id X
  obtain ⟨hx, hb, hml, hown, hts⟩ := id S0
  intro n
  induction n with
  | zero =>
    intro H locs ls y1 y2 y3 y4 v_m I hl h
    unfold PX9_laysLooking_L57 at h
    exact h.elim
  | succ n ih =>
    intro H locs ls y1 y2 y3 y4 v_m I hl h
    unfold PX9_laysLooking_L57 at h
    refine lv_iload hx hb (kn_dec tX9_laysLooking_t0 38 rfl) (lv_at hl 4 rfl) ?_
    refine lv_aload_n hx hb (kn_dec tX9_laysLooking_t0 39 rfl) rfl (lv_at hl 0 rfl) ?_
    refine kw_getl hx hb hts inX9 hown hK I 0 rfl rfl 1 (by decide) rfl (hts _ q4_201) (kn_dec tX9_laysLooking_t0 40 rfl) rfl ?_
    refine lv_iconst (v := (3)) hx hb (kn_dec tX9_laysLooking_t0 41 rfl) (by decide) ?_
    refine kw_iald hx hb hK I 0 rfl 1 12 (List.mem_of_getElem? (i := 0) rfl) (by unfold vp_in; decide) (kn_dec tX9_laysLooking_t0 42 rfl) ?_
    refine lv_icmp_ge (tgt := 112) hx hb (kn_dec tX9_laysLooking_t0 43 rfl) (by decide) (fun c1 => ?_) (fun c1 => ?_)
    · have h := h.1 c1
      refine lv_aload_n hx hb (kn_dec tX9_laysLooking_t1 7 rfl) rfl (lv_at hl 0 rfl) ?_
      refine lv_iload_n hx hb (kn_dec tX9_laysLooking_t1 8 rfl) rfl (lv_at hl 1 rfl) ?_
      refine lv_iload_n hx hb (kn_dec tX9_laysLooking_t1 9 rfl) rfl (lv_at hl 3 rfl) ?_
      refine kw_calli (wc := [(kModel, ad_m, _)]) (wr := []) I hA [0] [] rfl rfl (by decide) (by decide) (kn_runV (As := [.int _, .int _]) S0 hK hZ hA I ((ctX9_minutesOf h).met _) (kn_cwV 2 hts q6_174 q6_176 q0_70 q1_10 q6_177 rfl rfl (by decide +kernel) ⟨(Nat.le_of_ble_eq_true rfl), (Nat.le_of_ble_eq_true rfl)⟩) [0] rfl (by decide) 0 rfl rfl rfl rfl hl.1 rfl (Nat.le_of_ble_eq_true rfl) (kn_dec tX9_laysLooking_t1 10 rfl) ⟨(Nat.le_of_ble_eq_true rfl), (Nat.le_of_ble_eq_true rfl)⟩) (fun r2 u3 H locs h I => ?_)
      have I : kn_I D tc (kn_A w0 s.heap.size) s.heap [(kModel, ad_m, _)] _ _ := I
      refine lv_istore (lv' := [(4, .int _), (0, .ref (ad_m 0)), (1, .int _), (2, .int _), (3, .int _)]) hx hb (kn_dec tX9_laysLooking_t1 11 rfl) hl (by decide) rfl (fun ls hl => ?_)
      refine lv_aload_n hx hb (kn_dec tX9_laysLooking_t1 12 rfl) rfl (lv_at hl 1 rfl) ?_
      refine kw_geti hx hb hts inX9 hown hK I 0 rfl rfl 54 (by decide) rfl (hts _ q5_14) (kn_dec tX9_laysLooking_t1 13 rfl) ?_
      refine lv_iload hx hb (kn_dec tX9_laysLooking_t1 14 rfl) (lv_at hl 0 rfl) ?_
      refine lv_iadd hx hb (kn_dec tX9_laysLooking_t1 15 rfl) ?_
      refine lv_aload_n hx hb (kn_dec tX9_laysLooking_t1 16 rfl) rfl (lv_at hl 1 rfl) ?_
      refine kw_getl hx hb hts inX9 hown hK I 0 rfl rfl 8 (by decide) rfl (hts _ q4_208) (kn_dec tX9_laysLooking_t1 17 rfl) rfl ?_
      refine lv_iload_n hx hb (kn_dec tX9_laysLooking_t1 18 rfl) rfl (lv_at hl 2 rfl) ?_
      obtain ⟨hs4, h⟩ := h
      refine kw_iald hx hb hK I 0 rfl 8 4 (List.mem_of_getElem? (i := 7) rfl) hs4 (kn_dec tX9_laysLooking_t1 19 rfl) ?_
      refine lv_icmp_le (tgt := 138) hx hb (kn_dec tX9_laysLooking_t1 20 rfl) (by decide) (fun c5 => ?_) (fun c5 => ?_)
      · have h := h.1 c5
        refine lv_aload_n hx hb (kn_dec tX9_laysLooking_t1 23 rfl) rfl (lv_at hl 1 rfl) ?_
        refine lv_dup hx hb (kn_dec tX9_laysLooking_t1 24 rfl) rfl ?_
        refine kw_geti hx hb hts inX9 hown hK I 0 rfl rfl 54 (by decide) rfl (hts _ q5_14) (kn_dec tX9_laysLooking_t1 25 rfl) ?_
        refine lv_iload hx hb (kn_dec tX9_laysLooking_t1 26 rfl) (lv_at hl 0 rfl) ?_
        refine lv_iadd hx hb (kn_dec tX9_laysLooking_t1 27 rfl) ?_
        refine lv_topi (fun x6 ex6 => ?_)
        have h := h x6 ex6
        refine kw_puti hx hb hts inX9 tyX9 tyX9_ok nmX9 hown hK I 0 rfl rfl 54 (by decide) rfl (hts _ q5_14) rfl rfl rfl (kn_dec tX9_laysLooking_t1 28 rfl) (fun v_m7 ev_m7 H locs I => ?_)
        have h := h v_m7 ev_m7
        have I : kn_I D tc (kn_A w0 s.heap.size) s.heap [(kModel, ad_m, _)] _ _ := I
        refine lv_aload_n hx hb (kn_dec tX9_laysLooking_t1 29 rfl) rfl (lv_at hl 1 rfl) ?_
        refine kw_getl hx hb hts inX9 hown hK I 0 rfl rfl 51 (by decide) rfl (hts _ q5_11) (kn_dec tX9_laysLooking_t1 30 rfl) rfl ?_
        refine lv_aload_n hx hb (kn_dec tX9_laysLooking_t1 31 rfl) rfl (lv_at hl 1 rfl) ?_
        refine kw_geti hx hb hts inX9 hown hK I 0 rfl rfl 53 (by decide) rfl (hts _ q5_13) (kn_dec tX9_laysLooking_t1 32 rfl) ?_
        refine lv_iload_n hx hb (kn_dec tX9_laysLooking_t1 33 rfl) rfl (lv_at hl 4 rfl) ?_
        obtain ⟨hs8, h⟩ := h
        refine kw_iast hx hb hK I 0 rfl 51 10 (List.mem_of_getElem? (i := 39) rfl) ukModel_51 hs8 (kn_dec tX9_laysLooking_t1 34 rfl) (fun v_m9 ev_m9 H locs I => ?_)
        have h := h v_m9 ev_m9
        have I : kn_I D tc (kn_A w0 s.heap.size) s.heap [(kModel, ad_m, _)] _ _ := I
        refine lv_aload_n hx hb (kn_dec tX9_laysLooking_t1 35 rfl) rfl (lv_at hl 1 rfl) ?_
        refine lv_dup hx hb (kn_dec tX9_laysLooking_t1 36 rfl) rfl ?_
        refine kw_geti hx hb hts inX9 hown hK I 0 rfl rfl 53 (by decide) rfl (hts _ q5_13) (kn_dec tX9_laysLooking_t1 37 rfl) ?_
        refine lv_iconst (v := (1)) hx hb (kn_dec tX9_laysLooking_t1 38 rfl) (by decide) ?_
        refine lv_iadd hx hb (kn_dec tX9_laysLooking_t1 39 rfl) ?_
        refine lv_topi (fun x10 ex10 => ?_)
        have h := h x10 ex10
        refine kw_puti hx hb hts inX9 tyX9 tyX9_ok nmX9 hown hK I 0 rfl rfl 53 (by decide) rfl (hts _ q5_13) rfl rfl rfl (kn_dec tX9_laysLooking_t1 40 rfl) (fun v_m11 ev_m11 H locs I => ?_)
        have h := h v_m11 ev_m11
        have I : kn_I D tc (kn_A w0 s.heap.size) s.heap [(kModel, ad_m, _)] _ _ := I
        refine lv_iload_n hx hb (kn_dec tX9_laysLooking_t1 41 rfl) rfl (lv_at hl 3 rfl) ?_
        refine lv_iconst (v := (1)) hx hb (kn_dec tX9_laysLooking_t1 42 rfl) (by decide) ?_
        refine lv_iload_n hx hb (kn_dec tX9_laysLooking_t1 43 rfl) rfl (lv_at hl 4 rfl) ?_
        refine lv_ishl hx hb (kn_dec tX9_laysLooking_t1 44 rfl) ?_
        refine lv_iconst (v := (-1)) hx hb (kn_dec tX9_laysLooking_t1 45 rfl) (by decide) ?_
        refine lv_ixor hx hb (kn_dec tX9_laysLooking_t1 46 rfl) ?_
        refine lv_iand hx hb (kn_dec tX9_laysLooking_t1 47 rfl) ?_
        refine lv_topi (fun x12 ex12 => ?_)
        have h := h x12 ex12
        refine lv_istore_n (lv' := [(2, .int _), (4, .int _), (0, .ref (ad_m 0)), (1, .int _), (3, .int _)]) hx hb (kn_dec tX9_laysLooking_t1 48 rfl) rfl hl (by decide) rfl (fun ls hl => ?_)
        refine lv_iload_n hx hb (kn_dec tX9_laysLooking_t1 49 rfl) rfl (lv_at hl 4 rfl) ?_
        refine lv_aload_n hx hb (kn_dec tX9_laysLooking_t1 50 rfl) rfl (lv_at hl 2 rfl) ?_
        refine kw_getl hx hb hts inX9 hown hK I 0 rfl rfl 1 (by decide) rfl (hts _ q4_201) (kn_dec tX9_laysLooking_t1 51 rfl) rfl ?_
        refine lv_bipush (v := (7)) hx hb (kn_dec tX9_laysLooking_t1 52 rfl) (by decide) ?_
        refine kw_iald hx hb hK I 0 rfl 1 12 (List.mem_of_getElem? (i := 0) rfl) (by unfold vp_in; decide) (kn_dec tX9_laysLooking_t1 53 rfl) ?_
        refine lv_icmp_ne (tgt := 190) hx hb (kn_dec tX9_laysLooking_t1 54 rfl) (by decide) (fun c13 => ?_) (fun c13 => ?_)
        · have h := h.1 c13
          refine lv_goto (tgt := 48) hx hb (kn_dec tX9_laysLooking_t1 57 rfl) (by decide) ?_
          exact hK48 _ _ _ _ _ _  I (lv_sub hl [2, 3, 0] rfl) h
        · have h := h.2 c13
          refine lv_iconst (v := (1)) hx hb (kn_dec tX9_laysLooking_t1 55 rfl) (by decide) ?_
          exact kw_zret hx hb hr (kn_nz (Or.inr rfl)) hlocks I _ rfl ⟨(Or.inr rfl), h⟩ (kn_dec tX9_laysLooking_t1 56 rfl)
      · have h := h.2 c5
        refine lv_iconst (v := (0)) hx hb (kn_dec tX9_laysLooking_t1 21 rfl) (by decide) ?_
        exact kw_zret hx hb hr (kn_nz (Or.inl rfl)) hlocks I _ rfl ⟨(Or.inl rfl), h⟩ (kn_dec tX9_laysLooking_t1 22 rfl)
    · have h := h.2 c1
      refine lv_iload_n hx hb (kn_dec tX9_laysLooking_t0 44 rfl) rfl (lv_at hl 2 rfl) ?_
      refine lv_iload hx hb (kn_dec tX9_laysLooking_t0 45 rfl) (lv_at hl 4 rfl) ?_
      refine kw_calli (wc := []) (wr := [(kModel, ad_m, _)]) I hA [] [0] rfl rfl (by decide) (by decide) (kn_runS (As := [.int _, .int _]) S0 hK hZ hA I ((ctX9_has h).met _) (kn_cwS 2 hts q6_112 q6_113 q1_10 q6_114 rfl rfl (by decide +kernel) ⟨(Nat.le_of_ble_eq_true rfl), (Nat.le_of_ble_eq_true rfl)⟩) [] rfl (by decide) rfl hl.1 rfl (Nat.le_of_ble_eq_true rfl) (kn_dec tX9_laysLooking_t0 46 rfl) ⟨(Nat.le_of_ble_eq_true rfl), (Nat.le_of_ble_eq_true rfl)⟩) (fun r14 u15 H locs h I => ?_)
      obtain ⟨hz_r14, h⟩ := h
      have I : kn_I D tc (kn_A w0 s.heap.size) s.heap [(kModel, ad_m, _)] _ _ := I
      refine lv_if_eq (tgt := 104) hx hb (kn_dec tX9_laysLooking_t0 47 rfl) (by decide) (fun c16 => ?_) (fun c16 => ?_)
      · have h := h.1 c16
        refine lv_iload_n hx hb (kn_dec tX9_laysLooking_t1 3 rfl) rfl (lv_at hl 3 rfl) ?_
        refine lv_istore_n (lv' := [(3, .int _), (0, .ref (ad_m 0)), (1, .int _), (2, .int _), (4, .int _)]) hx hb (kn_dec tX9_laysLooking_t1 4 rfl) rfl hl (by decide) rfl (fun ls hl => ?_)
        refine kw_iinc (lvf := fun y => [(4, .int y), (3, .int _), (0, .ref (ad_m 0)), (1, .int _), (2, .int _)]) (nv := (1)) hx hb (kn_dec tX9_laysLooking_t1 5 rfl) hl (k := 4) rfl (by decide) (by decide) (fun _ => rfl) (fun x17 ex17 ls hl => ?_)
        have h := h x17 ex17
        refine lv_goto (tgt := 57) hx hb (kn_dec tX9_laysLooking_t1 6 rfl) (by decide) ?_
        exact ih _ _ _ _ _ _ _ _  I (lv_sub hl [2, 3, 4, 1, 0] rfl) h
      · have h := h.2 c16
        refine lv_iload_n hx hb (kn_dec tX9_laysLooking_t0 48 rfl) rfl (lv_at hl 3 rfl) ?_
        refine lv_iconst (v := (-1)) hx hb (kn_dec tX9_laysLooking_t0 49 rfl) (by decide) ?_
        refine lv_icmp_eq (tgt := 99) hx hb (kn_dec tX9_laysLooking_t0 50 rfl) (by decide) (fun c18 => ?_) (fun c18 => ?_)
        · have h := h.1 c18
          refine lv_iload hx hb (kn_dec tX9_laysLooking_t1 1 rfl) (lv_at hl 4 rfl) ?_
          refine lv_goto (tgt := 105) hx hb (kn_dec tX9_laysLooking_t1 2 rfl) (by decide) ?_
          refine lv_istore_n (lv' := [(3, .int _), (0, .ref (ad_m 0)), (1, .int _), (2, .int _), (4, .int _)]) hx hb (kn_dec tX9_laysLooking_t1 4 rfl) rfl hl (by decide) rfl (fun ls hl => ?_)
          refine kw_iinc (lvf := fun y => [(4, .int y), (3, .int _), (0, .ref (ad_m 0)), (1, .int _), (2, .int _)]) (nv := (1)) hx hb (kn_dec tX9_laysLooking_t1 5 rfl) hl (k := 4) rfl (by decide) (by decide) (fun _ => rfl) (fun x19 ex19 ls hl => ?_)
          have h := h x19 ex19
          refine lv_goto (tgt := 57) hx hb (kn_dec tX9_laysLooking_t1 6 rfl) (by decide) ?_
          exact ih _ _ _ _ _ _ _ _  I (lv_sub hl [2, 3, 4, 1, 0] rfl) h
        · have h := h.2 c18
          refine lv_aload_n hx hb (kn_dec tX9_laysLooking_t0 51 rfl) rfl (lv_at hl 0 rfl) ?_
          refine kw_getl hx hb hts inX9 hown hK I 0 rfl rfl 52 (by decide) rfl (hts _ q5_12) (kn_dec tX9_laysLooking_t0 52 rfl) rfl ?_
          refine lv_iload hx hb (kn_dec tX9_laysLooking_t0 53 rfl) (lv_at hl 4 rfl) ?_
          obtain ⟨hs20, h⟩ := h
          refine kw_lald hx hb hK I 0 rfl 52 10 (List.mem_of_getElem? (i := 40) rfl) hs20 (kn_dec tX9_laysLooking_t0 54 rfl) ?_
          refine lv_aload_n hx hb (kn_dec tX9_laysLooking_t0 55 rfl) rfl (lv_at hl 0 rfl) ?_
          refine kw_getl hx hb hts inX9 hown hK I 0 rfl rfl 52 (by decide) rfl (hts _ q5_12) (kn_dec tX9_laysLooking_t0 56 rfl) rfl ?_
          refine lv_iload_n hx hb (kn_dec tX9_laysLooking_t0 57 rfl) rfl (lv_at hl 3 rfl) ?_
          obtain ⟨hs21, h⟩ := h
          refine kw_lald hx hb hK I 0 rfl 52 10 (List.mem_of_getElem? (i := 40) rfl) hs21 (kn_dec tX9_laysLooking_t0 58 rfl) ?_
          refine W.lcmp hx hb (kn_dec tX9_laysLooking_t0 59 rfl) ?_
          refine lv_if_le (tgt := 104) hx hb (kn_dec tX9_laysLooking_t1 0 rfl) (by decide) (fun c22 => ?_) (fun c22 => ?_)
          · have h := h.1 c22
            refine lv_iload_n hx hb (kn_dec tX9_laysLooking_t1 3 rfl) rfl (lv_at hl 3 rfl) ?_
            refine lv_istore_n (lv' := [(3, .int _), (0, .ref (ad_m 0)), (1, .int _), (2, .int _), (4, .int _)]) hx hb (kn_dec tX9_laysLooking_t1 4 rfl) rfl hl (by decide) rfl (fun ls hl => ?_)
            refine kw_iinc (lvf := fun y => [(4, .int y), (3, .int _), (0, .ref (ad_m 0)), (1, .int _), (2, .int _)]) (nv := (1)) hx hb (kn_dec tX9_laysLooking_t1 5 rfl) hl (k := 4) rfl (by decide) (by decide) (fun _ => rfl) (fun x23 ex23 ls hl => ?_)
            have h := h x23 ex23
            refine lv_goto (tgt := 57) hx hb (kn_dec tX9_laysLooking_t1 6 rfl) (by decide) ?_
            exact ih _ _ _ _ _ _ _ _  I (lv_sub hl [2, 3, 4, 1, 0] rfl) h
          · have h := h.2 c22
            refine lv_iload hx hb (kn_dec tX9_laysLooking_t1 1 rfl) (lv_at hl 4 rfl) ?_
            refine lv_goto (tgt := 105) hx hb (kn_dec tX9_laysLooking_t1 2 rfl) (by decide) ?_
            refine lv_istore_n (lv' := [(3, .int _), (0, .ref (ad_m 0)), (1, .int _), (2, .int _), (4, .int _)]) hx hb (kn_dec tX9_laysLooking_t1 4 rfl) rfl hl (by decide) rfl (fun ls hl => ?_)
            refine kw_iinc (lvf := fun y => [(4, .int y), (3, .int _), (0, .ref (ad_m 0)), (1, .int _), (2, .int _)]) (nv := (1)) hx hb (kn_dec tX9_laysLooking_t1 5 rfl) hl (k := 4) rfl (by decide) (by decide) (fun _ => rfl) (fun x24 ex24 ls hl => ?_)
            have h := h x24 ex24
            refine lv_goto (tgt := 57) hx hb (kn_dec tX9_laysLooking_t1 6 rfl) (by decide) ?_
            exact ih _ _ _ _ _ _ _ _  I (lv_sub hl [2, 3, 4, 1, 0] rfl) h
def PX9_laysLooking_L48   (post : Int32 → OV → Prop) : Nat → Int32 → Int32 → OV → Prop
  | 0, _, _, _ => False
  | n + 1, y1, y2, v_m => ((y2 = ((0 : Int32)) → post ((0 : Int32)) v_m) ∧ (¬ y2 = ((0 : Int32)) → (∃ n2 : Nat, PX9_laysLooking_L57 (PX9_laysLooking_L48 post n) post n2 y1 y2 ((-1 : Int32)) ((0 : Int32)) v_m)))
set_option maxRecDepth 100000 in
set_option maxHeartbeats 1000000 in
theorem wX9_laysLooking_L48   {post : Int32 → OV → Prop} {ad_m : Nat → Nat} (X : kn_X p s m args meth c cX9_laysLooking 5 (some .boolean) RX9 kn_all D tc Z (kn_A w0 s.heap.size))    : ∀ n : Nat, ∀ (H : Heap) (locs : List Loc) (ls : Array Slot) (y1 : Int32) (y2 : Int32) (v_m : OV), kn_I D tc (kn_A w0 s.heap.size) s.heap [(kModel, ad_m, v_m)] H locs → lv_has ls 5 [(0, .ref (ad_m 0)), (1, .int y1), (2, .int y2)] → PX9_laysLooking_L48 post n y1 y2 v_m → W p l e rmX9_laysLooking s m args below meth c H locs 0 0 (kn_Qi D tc w0 (fun (u : OV) => [(kModel, ad_m, u)]) (fun (r : Int32) (u : OV) => (r = 0 ∨ r = 1) ∧ post r u) below args s 0 0) (F0 m 48 ls []) := by
  obtain ⟨S0, hr, hlocks, hK, hZ, hA⟩ := id X
  obtain ⟨hx, hb, hml, hown, hts⟩ := id S0
  intro n
  induction n with
  | zero =>
    intro H locs ls y1 y2 v_m I hl h
    unfold PX9_laysLooking_L48 at h
    exact h.elim
  | succ n ih =>
    intro H locs ls y1 y2 v_m I hl h
    unfold PX9_laysLooking_L48 at h
    refine lv_iload_n hx hb (kn_dec tX9_laysLooking_t0 32 rfl) rfl (lv_at hl 2 rfl) ?_
    refine lv_if_eq (tgt := 193) hx hb (kn_dec tX9_laysLooking_t0 33 rfl) (by decide) (fun c1 => ?_) (fun c1 => ?_)
    · have h := h.1 c1
      refine lv_iconst (v := (0)) hx hb (kn_dec tX9_laysLooking_t1 58 rfl) (by decide) ?_
      exact kw_zret hx hb hr (kn_nz (Or.inl rfl)) hlocks I _ rfl ⟨(Or.inl rfl), h⟩ (kn_dec tX9_laysLooking_t1 59 rfl)
    · have h := h.2 c1
      refine lv_iconst (v := (-1)) hx hb (kn_dec tX9_laysLooking_t0 34 rfl) (by decide) ?_
      refine lv_istore_n (lv' := [(3, .int _), (0, .ref (ad_m 0)), (1, .int _), (2, .int _)]) hx hb (kn_dec tX9_laysLooking_t0 35 rfl) rfl hl (by decide) rfl (fun ls hl => ?_)
      refine lv_iconst (v := (0)) hx hb (kn_dec tX9_laysLooking_t0 36 rfl) (by decide) ?_
      refine lv_istore (lv' := [(4, .int _), (3, .int _), (0, .ref (ad_m 0)), (1, .int _), (2, .int _)]) hx hb (kn_dec tX9_laysLooking_t0 37 rfl) hl (by decide) rfl (fun ls hl => ?_)
      obtain ⟨n2, h⟩ := h
      exact wX9_laysLooking_L57 X ih n2 _ _ _ _ _ _ _ _  I (lv_sub hl [2, 3, 4, 1, 0] rfl) h
def PX9_laysLooking_L4   (post : Int32 → OV → Prop) : Nat → Int32 → Int32 → Int32 → OV → Prop
  | 0, _, _, _, _ => False
  | n + 1, y1, y2, y3, v_m => (((v_m.2.1 1 ((3 : Int32)).toNatClampNeg) ≤ y3 → (∀ v_m2 : OV, v_m2 = si v_m 53 ((0 : Int32)) → (∀ v_m3 : OV, v_m3 = si v_m2 54 ((0 : Int32)) → (∃ n4 : Nat, PX9_laysLooking_L48 post n4 y1 y2 v_m3)))) ∧ (¬ (v_m.2.1 1 ((3 : Int32)).toNatClampNeg) ≤ y3 → (PX9_sumOf v_m y1 y3 (fun r6 v_m5 => (vp_in y3 10 ∧ (∀ v_m9 : OV, v_m9 = sl v_m5 52 (vp_updL (v_m5.2.2 52) y3.toNatClampNeg r6) → (∀ x10 : Int32, x10 = (y2 ||| (((1 : Int32)) <<< (y3 &&& 31))) → (∀ x11 : Int32, x11 = y3 + (1 : Int32) → PX9_laysLooking_L4 post n y1 x10 x11 v_m9))))))))
set_option maxRecDepth 100000 in
set_option maxHeartbeats 1000000 in
theorem wX9_laysLooking_L4   {post : Int32 → OV → Prop} {ad_m : Nat → Nat} (X : kn_X p s m args meth c cX9_laysLooking 5 (some .boolean) RX9 kn_all D tc Z (kn_A w0 s.heap.size))    : ∀ n : Nat, ∀ (H : Heap) (locs : List Loc) (ls : Array Slot) (y1 : Int32) (y2 : Int32) (y3 : Int32) (v_m : OV), kn_I D tc (kn_A w0 s.heap.size) s.heap [(kModel, ad_m, v_m)] H locs → lv_has ls 5 [(0, .ref (ad_m 0)), (1, .int y1), (2, .int y2), (3, .int y3)] → PX9_laysLooking_L4 post n y1 y2 y3 v_m → W p l e rmX9_laysLooking s m args below meth c H locs 0 0 (kn_Qi D tc w0 (fun (u : OV) => [(kModel, ad_m, u)]) (fun (r : Int32) (u : OV) => (r = 0 ∨ r = 1) ∧ post r u) below args s 0 0) (F0 m 4 ls []) := by
  obtain ⟨S0, hr, hlocks, hK, hZ, hA⟩ := id X
  obtain ⟨hx, hb, hml, hown, hts⟩ := id S0
  intro n
  induction n with
  | zero =>
    intro H locs ls y1 y2 y3 v_m I hl h
    unfold PX9_laysLooking_L4 at h
    exact h.elim
  | succ n ih =>
    intro H locs ls y1 y2 y3 v_m I hl h
    unfold PX9_laysLooking_L4 at h
    refine lv_iload_n hx hb (kn_dec tX9_laysLooking_t0 4 rfl) rfl (lv_at hl 3 rfl) ?_
    refine lv_aload_n hx hb (kn_dec tX9_laysLooking_t0 5 rfl) rfl (lv_at hl 0 rfl) ?_
    refine kw_getl hx hb hts inX9 hown hK I 0 rfl rfl 1 (by decide) rfl (hts _ q4_201) (kn_dec tX9_laysLooking_t0 6 rfl) rfl ?_
    refine lv_iconst (v := (3)) hx hb (kn_dec tX9_laysLooking_t0 7 rfl) (by decide) ?_
    refine kw_iald hx hb hK I 0 rfl 1 12 (List.mem_of_getElem? (i := 0) rfl) (by unfold vp_in; decide) (kn_dec tX9_laysLooking_t0 8 rfl) ?_
    refine lv_icmp_ge (tgt := 38) hx hb (kn_dec tX9_laysLooking_t0 9 rfl) (by decide) (fun c1 => ?_) (fun c1 => ?_)
    · have h := h.1 c1
      refine lv_aload_n hx hb (kn_dec tX9_laysLooking_t0 26 rfl) rfl (lv_at hl 0 rfl) ?_
      refine lv_iconst (v := (0)) hx hb (kn_dec tX9_laysLooking_t0 27 rfl) (by decide) ?_
      refine kw_puti hx hb hts inX9 tyX9 tyX9_ok nmX9 hown hK I 0 rfl rfl 53 (by decide) rfl (hts _ q5_13) rfl rfl rfl (kn_dec tX9_laysLooking_t0 28 rfl) (fun v_m2 ev_m2 H locs I => ?_)
      have h := h v_m2 ev_m2
      have I : kn_I D tc (kn_A w0 s.heap.size) s.heap [(kModel, ad_m, _)] _ _ := I
      refine lv_aload_n hx hb (kn_dec tX9_laysLooking_t0 29 rfl) rfl (lv_at hl 0 rfl) ?_
      refine lv_iconst (v := (0)) hx hb (kn_dec tX9_laysLooking_t0 30 rfl) (by decide) ?_
      refine kw_puti hx hb hts inX9 tyX9 tyX9_ok nmX9 hown hK I 0 rfl rfl 54 (by decide) rfl (hts _ q5_14) rfl rfl rfl (kn_dec tX9_laysLooking_t0 31 rfl) (fun v_m3 ev_m3 H locs I => ?_)
      have h := h v_m3 ev_m3
      have I : kn_I D tc (kn_A w0 s.heap.size) s.heap [(kModel, ad_m, _)] _ _ := I
      obtain ⟨n4, h⟩ := h
      exact wX9_laysLooking_L48 X n4 _ _ _ _ _ _  I (lv_sub hl [0, 1, 2] rfl) h
    · have h := h.2 c1
      refine lv_aload_n hx hb (kn_dec tX9_laysLooking_t0 10 rfl) rfl (lv_at hl 0 rfl) ?_
      refine kw_getl hx hb hts inX9 hown hK I 0 rfl rfl 52 (by decide) rfl (hts _ q5_12) (kn_dec tX9_laysLooking_t0 11 rfl) rfl ?_
      refine lv_iload_n hx hb (kn_dec tX9_laysLooking_t0 12 rfl) rfl (lv_at hl 3 rfl) ?_
      refine lv_aload_n hx hb (kn_dec tX9_laysLooking_t0 13 rfl) rfl (lv_at hl 0 rfl) ?_
      refine lv_iload_n hx hb (kn_dec tX9_laysLooking_t0 14 rfl) rfl (lv_at hl 1 rfl) ?_
      refine lv_iload_n hx hb (kn_dec tX9_laysLooking_t0 15 rfl) rfl (lv_at hl 3 rfl) ?_
      refine kw_calll (wc := [(kModel, ad_m, _)]) (wr := []) I hA [0] [] rfl rfl (by decide) (by decide) (kn_runV (As := [.int _, .int _]) S0 hK hZ hA I ((ctX9_sumOf h).met _) (kn_cwV 2 hts q6_167 q6_169 q0_69 q1_10 q6_170 rfl rfl (by decide +kernel) ⟨(Nat.le_of_ble_eq_true rfl), (Nat.le_of_ble_eq_true rfl)⟩) [0] rfl (by decide) 0 rfl rfl rfl rfl hl.1 rfl (Nat.le_of_ble_eq_true rfl) (kn_dec tX9_laysLooking_t0 16 rfl) ⟨(Nat.le_of_ble_eq_true rfl), (Nat.le_of_ble_eq_true rfl)⟩) (fun r6 u7 H locs h I => ?_)
      have I : kn_I D tc (kn_A w0 s.heap.size) s.heap [(kModel, ad_m, _)] _ _ := I
      obtain ⟨hs8, h⟩ := h
      refine kw_last hx hb hK I 0 rfl 52 10 (List.mem_of_getElem? (i := 40) rfl) ukModel_52 hs8 (kn_dec tX9_laysLooking_t0 17 rfl) (fun v_m9 ev_m9 H locs I => ?_)
      have h := h v_m9 ev_m9
      have I : kn_I D tc (kn_A w0 s.heap.size) s.heap [(kModel, ad_m, _)] _ _ := I
      refine lv_iload_n hx hb (kn_dec tX9_laysLooking_t0 18 rfl) rfl (lv_at hl 2 rfl) ?_
      refine lv_iconst (v := (1)) hx hb (kn_dec tX9_laysLooking_t0 19 rfl) (by decide) ?_
      refine lv_iload_n hx hb (kn_dec tX9_laysLooking_t0 20 rfl) rfl (lv_at hl 3 rfl) ?_
      refine lv_ishl hx hb (kn_dec tX9_laysLooking_t0 21 rfl) ?_
      refine lv_ior hx hb (kn_dec tX9_laysLooking_t0 22 rfl) ?_
      refine lv_topi (fun x10 ex10 => ?_)
      have h := h x10 ex10
      refine lv_istore_n (lv' := [(2, .int _), (0, .ref (ad_m 0)), (1, .int _), (3, .int _)]) hx hb (kn_dec tX9_laysLooking_t0 23 rfl) rfl hl (by decide) rfl (fun ls hl => ?_)
      refine kw_iinc (lvf := fun y => [(3, .int y), (2, .int _), (0, .ref (ad_m 0)), (1, .int _)]) (nv := (1)) hx hb (kn_dec tX9_laysLooking_t0 24 rfl) hl (k := 3) rfl (by decide) (by decide) (fun _ => rfl) (fun x11 ex11 ls hl => ?_)
      have h := h x11 ex11
      refine lv_goto (tgt := 4) hx hb (kn_dec tX9_laysLooking_t0 25 rfl) (by decide) ?_
      exact ih _ _ _ _ _ _ _  I (lv_sub hl [2, 3, 1, 0] rfl) h
def PX9_laysLooking  (v_m : OV) (a1 : Int32) (post : Int32 → OV → Prop) : Prop := (∃ n1 : Nat, PX9_laysLooking_L4 post n1 a1 ((0 : Int32)) ((0 : Int32)) v_m)
set_option maxRecDepth 100000 in
set_option maxHeartbeats 1000000 in
theorem ctX9_laysLooking {l : Launch} {D : va_G} {tc : Nat → ClassId} {Z : (Nat → Nat) × (Nat → Nat)}  {ad_m : Nat → Nat} {v_m : OV} {a1 : Int32}    {post : Int32 → OV → Prop} (h : PX9_laysLooking  v_m a1 post) : CTi l D tc Z yX9_laysLooking (Cond.code yX9_laysLooking cX9_laysLooking 5 (some .boolean) :: kn_all) rmX9_laysLooking 0 0 [.ref (ad_m 0), .int a1] [(kModel, ad_m, v_m)] (fun (u : OV) => [(kModel, ad_m, u)]) (fun (r : Int32) (u : OV) => (r = 0 ∨ r = 1) ∧ post r u) := by
  refine kn_ofi (cc := cX9_laysLooking) (nL := 5) (ret := (some .boolean)) (lv := [(0, .ref (ad_m 0)), (1, .int a1)]) (by decide) (Nat.le_of_ble_eq_true rfl) rfl (fun p e s m below meth c ls X I hl _ => ?_)
  obtain ⟨S0, hr, hlocks, hK, hZ, hA⟩ := id X
  obtain ⟨hx, hb, hml, hown, hts⟩ := id S0
  unfold PX9_laysLooking at h
  refine lv_iconst (v := (0)) hx hb (kn_dec tX9_laysLooking_t0 0 rfl) (by decide) ?_
  refine lv_istore_n (lv' := [(2, .int _), (0, .ref (ad_m 0)), (1, .int _)]) hx hb (kn_dec tX9_laysLooking_t0 1 rfl) rfl hl (by decide) rfl (fun ls hl => ?_)
  refine lv_iconst (v := (0)) hx hb (kn_dec tX9_laysLooking_t0 2 rfl) (by decide) ?_
  refine lv_istore_n (lv' := [(3, .int _), (2, .int _), (0, .ref (ad_m 0)), (1, .int _)]) hx hb (kn_dec tX9_laysLooking_t0 3 rfl) rfl hl (by decide) rfl (fun ls hl => ?_)
  obtain ⟨n1, h⟩ := h
  exact wX9_laysLooking_L4 X n1 _ _ _ _ _ _ _  I (lv_sub hl [2, 3, 1, 0] rfl) h

/-! X9_swaps -/
abbrev rmX9_swaps : Room := { frames := 0, cells := 0, slots := 0, locals := 0 }
def PX9_swaps_b40  (K4 : Int32 → Int32 → Int32 → OV → Prop) (post : OV → Prop) (t0 : Int32) (t1 : Int32) (y1 : Int32) (y2 : Int32) (y3 : Int32) (v_m : OV) : Prop := ((t0 ≤ t1 → (∀ x2 : Int32, x2 = y3 + (1 : Int32) → K4 y1 y2 x2 v_m)) ∧ (¬ t0 ≤ t1 → (∀ x3 : Int32, x3 = y3 + (1 : Int32) → K4 y1 y3 x3 v_m)))
set_option maxRecDepth 100000 in
set_option maxHeartbeats 1000000 in
theorem wX9_swaps_b40  {K4 : Int32 → Int32 → Int32 → OV → Prop} {post : OV → Prop} {ad_m : Nat → Nat} (X : kn_X p s m args meth c cX9_swaps 4 none RX9 kn_all D tc Z (kn_A w0 s.heap.size))   (hK4 : ∀ (H : Heap) (locs : List Loc) (ls : Array Slot) (y1 : Int32) (y2 : Int32) (y3 : Int32) (v_m : OV), kn_I D tc (kn_A w0 s.heap.size) s.heap [(kModel, ad_m, v_m)] H locs → lv_has ls 4 [(0, .ref (ad_m 0)), (1, .int y1), (2, .int y2), (3, .int y3)] → K4 y1 y2 y3 v_m → W p l e rmX9_swaps s m args below meth c H locs 0 0 (kn_Qv D tc w0 (fun (u : OV) => [(kModel, ad_m, u)]) (fun (u : OV) => post u) below args s 0 0) (F0 m 4 ls [])) : ∀ (H : Heap) (locs : List Loc) (ls : Array Slot) (t0 : Int32) (t1 : Int32) (y1 : Int32) (y2 : Int32) (y3 : Int32) (v_m : OV), kn_I D tc (kn_A w0 s.heap.size) s.heap [(kModel, ad_m, v_m)] H locs → lv_has ls 4 [(0, .ref (ad_m 0)), (1, .int y1), (2, .int y2), (3, .int y3)] → PX9_swaps_b40 K4 post t0 t1 y1 y2 y3 v_m → W p l e rmX9_swaps s m args below meth c H locs 0 0 (kn_Qv D tc w0 (fun (u : OV) => [(kModel, ad_m, u)]) (fun (u : OV) => post u) below args s 0 0) (F0 m 40 ls [.int t1, .int t0]) := by
  obtain ⟨S0, hr, hlocks, hK, hZ, hA⟩ := id X
  obtain ⟨hx, hb, hml, hown, hts⟩ := id S0
  intro H locs ls t0 t1 y1 y2 y3 v_m I hl h
  unfold PX9_swaps_b40 at h
  refine lv_icmp_le (tgt := 47) hx hb (kn_dec tX9_swaps 26 rfl) (by decide) (fun c1 => ?_) (fun c1 => ?_)
  · have h := h.1 c1
    refine lv_iload_n hx hb (kn_dec tX9_swaps 29 rfl) rfl (lv_at hl 2 rfl) ?_
    refine lv_istore_n (lv' := [(2, .int _), (0, .ref (ad_m 0)), (1, .int _), (3, .int _)]) hx hb (kn_dec tX9_swaps 30 rfl) rfl hl (by decide) rfl (fun ls hl => ?_)
    refine kw_iinc (lvf := fun y => [(3, .int y), (2, .int _), (0, .ref (ad_m 0)), (1, .int _)]) (nv := (1)) hx hb (kn_dec tX9_swaps 31 rfl) hl (k := 3) rfl (by decide) (by decide) (fun _ => rfl) (fun x2 ex2 ls hl => ?_)
    have h := h x2 ex2
    refine lv_goto (tgt := 4) hx hb (kn_dec tX9_swaps 32 rfl) (by decide) ?_
    exact hK4 _ _ _ _ _ _ _  I (lv_sub hl [2, 3, 1, 0] rfl) h
  · have h := h.2 c1
    refine lv_iload_n hx hb (kn_dec tX9_swaps 27 rfl) rfl (lv_at hl 3 rfl) ?_
    refine lv_goto (tgt := 48) hx hb (kn_dec tX9_swaps 28 rfl) (by decide) ?_
    refine lv_istore_n (lv' := [(2, .int _), (0, .ref (ad_m 0)), (1, .int _), (3, .int _)]) hx hb (kn_dec tX9_swaps 30 rfl) rfl hl (by decide) rfl (fun ls hl => ?_)
    refine kw_iinc (lvf := fun y => [(3, .int y), (2, .int _), (0, .ref (ad_m 0)), (1, .int _)]) (nv := (1)) hx hb (kn_dec tX9_swaps 31 rfl) hl (k := 3) rfl (by decide) (by decide) (fun _ => rfl) (fun x3 ex3 ls hl => ?_)
    have h := h x3 ex3
    refine lv_goto (tgt := 4) hx hb (kn_dec tX9_swaps 32 rfl) (by decide) ?_
    exact hK4 _ _ _ _ _ _ _  I (lv_sub hl [2, 3, 1, 0] rfl) h
def PX9_swaps_L4   (post : OV → Prop) : Nat → Int32 → Int32 → Int32 → OV → Prop
  | 0, _, _, _, _ => False
  | n + 1, y1, y2, y3, v_m => (((v_m.2.1 1 ((4 : Int32)).toNatClampNeg) ≤ y3 → ((y2 = ((-1 : Int32)) → post v_m) ∧ (¬ y2 = ((-1 : Int32)) → (vp_in y2 6 ∧ (∀ x4 : Int32, x4 = (v_m.2.1 6 y2.toNatClampNeg) → (vp_in y1 4 ∧ (∀ x6 : Int32, x6 = (v_m.2.1 9 y1.toNatClampNeg) → (vp_in y2 6 ∧ (∀ v_m8 : OV, v_m8 = sa v_m 6 (upd (v_m.2.1 6) y2.toNatClampNeg x6) → (vp_in y1 4 ∧ (∀ v_m10 : OV, v_m10 = sa v_m8 9 (upd (v_m8.2.1 9) y1.toNatClampNeg x4) → post v_m10))))))))))) ∧ (¬ (v_m.2.1 1 ((4 : Int32)).toNatClampNeg) ≤ y3 → (vp_in y3 6 ∧ ((¬ y2 = ((-1 : Int32)) → (vp_in y2 6 ∧ PX9_swaps_b40 (PX9_swaps_L4 post n) post (v_m.2.1 6 y3.toNatClampNeg) (v_m.2.1 6 y2.toNatClampNeg) y1 y2 y3 v_m)) ∧ (y2 = ((-1 : Int32)) → (vp_in y1 4 ∧ PX9_swaps_b40 (PX9_swaps_L4 post n) post (v_m.2.1 6 y3.toNatClampNeg) (v_m.2.1 9 y1.toNatClampNeg) y1 y2 y3 v_m))))))
set_option maxRecDepth 100000 in
set_option maxHeartbeats 1000000 in
theorem wX9_swaps_L4   {post : OV → Prop} {ad_m : Nat → Nat} (X : kn_X p s m args meth c cX9_swaps 4 none RX9 kn_all D tc Z (kn_A w0 s.heap.size))    : ∀ n : Nat, ∀ (H : Heap) (locs : List Loc) (ls : Array Slot) (y1 : Int32) (y2 : Int32) (y3 : Int32) (v_m : OV), kn_I D tc (kn_A w0 s.heap.size) s.heap [(kModel, ad_m, v_m)] H locs → lv_has ls 4 [(0, .ref (ad_m 0)), (1, .int y1), (2, .int y2), (3, .int y3)] → PX9_swaps_L4 post n y1 y2 y3 v_m → W p l e rmX9_swaps s m args below meth c H locs 0 0 (kn_Qv D tc w0 (fun (u : OV) => [(kModel, ad_m, u)]) (fun (u : OV) => post u) below args s 0 0) (F0 m 4 ls []) := by
  obtain ⟨S0, hr, hlocks, hK, hZ, hA⟩ := id X
  obtain ⟨hx, hb, hml, hown, hts⟩ := id S0
  intro n
  induction n with
  | zero =>
    intro H locs ls y1 y2 y3 v_m I hl h
    unfold PX9_swaps_L4 at h
    exact h.elim
  | succ n ih =>
    intro H locs ls y1 y2 y3 v_m I hl h
    unfold PX9_swaps_L4 at h
    refine lv_iload_n hx hb (kn_dec tX9_swaps 4 rfl) rfl (lv_at hl 3 rfl) ?_
    refine lv_aload_n hx hb (kn_dec tX9_swaps 5 rfl) rfl (lv_at hl 0 rfl) ?_
    refine kw_getl hx hb hts inX9 hown hK I 0 rfl rfl 1 (by decide) rfl (hts _ q4_201) (kn_dec tX9_swaps 6 rfl) rfl ?_
    refine lv_iconst (v := (4)) hx hb (kn_dec tX9_swaps 7 rfl) (by decide) ?_
    refine kw_iald hx hb hK I 0 rfl 1 12 (List.mem_of_getElem? (i := 0) rfl) (by unfold vp_in; decide) (kn_dec tX9_swaps 8 rfl) ?_
    refine lv_icmp_ge (tgt := 55) hx hb (kn_dec tX9_swaps 9 rfl) (by decide) (fun c1 => ?_) (fun c1 => ?_)
    · have h := h.1 c1
      refine lv_iload_n hx hb (kn_dec tX9_swaps 33 rfl) rfl (lv_at hl 2 rfl) ?_
      refine lv_iconst (v := (-1)) hx hb (kn_dec tX9_swaps 34 rfl) (by decide) ?_
      refine lv_icmp_eq (tgt := 86) hx hb (kn_dec tX9_swaps 35 rfl) (by decide) (fun c2 => ?_) (fun c2 => ?_)
      · have h := h.1 c2
        exact kw_vret hx hb hr hlocks I _ rfl h (kn_dec tX9_swaps 54 rfl)
      · have h := h.2 c2
        refine lv_aload_n hx hb (kn_dec tX9_swaps 36 rfl) rfl (lv_at hl 0 rfl) ?_
        refine kw_getl hx hb hts inX9 hown hK I 0 rfl rfl 6 (by decide) rfl (hts _ q4_206) (kn_dec tX9_swaps 37 rfl) rfl ?_
        refine lv_iload_n hx hb (kn_dec tX9_swaps 38 rfl) rfl (lv_at hl 2 rfl) ?_
        obtain ⟨hs3, h⟩ := h
        refine kw_iald hx hb hK I 0 rfl 6 6 (List.mem_of_getElem? (i := 5) rfl) hs3 (kn_dec tX9_swaps 39 rfl) ?_
        refine lv_topi (fun x4 ex4 => ?_)
        have h := h x4 ex4
        refine lv_istore_n (lv' := [(3, .int _), (0, .ref (ad_m 0)), (1, .int _), (2, .int _)]) hx hb (kn_dec tX9_swaps 40 rfl) rfl hl (by decide) rfl (fun ls hl => ?_)
        refine lv_aload_n hx hb (kn_dec tX9_swaps 41 rfl) rfl (lv_at hl 1 rfl) ?_
        refine kw_getl hx hb hts inX9 hown hK I 0 rfl rfl 6 (by decide) rfl (hts _ q4_206) (kn_dec tX9_swaps 42 rfl) rfl ?_
        refine lv_iload_n hx hb (kn_dec tX9_swaps 43 rfl) rfl (lv_at hl 3 rfl) ?_
        refine lv_aload_n hx hb (kn_dec tX9_swaps 44 rfl) rfl (lv_at hl 1 rfl) ?_
        refine kw_getl hx hb hts inX9 hown hK I 0 rfl rfl 9 (by decide) rfl (hts _ q4_209) (kn_dec tX9_swaps 45 rfl) rfl ?_
        refine lv_iload_n hx hb (kn_dec tX9_swaps 46 rfl) rfl (lv_at hl 2 rfl) ?_
        obtain ⟨hs5, h⟩ := h
        refine kw_iald hx hb hK I 0 rfl 9 4 (List.mem_of_getElem? (i := 8) rfl) hs5 (kn_dec tX9_swaps 47 rfl) ?_
        refine lv_topi (fun x6 ex6 => ?_)
        have h := h x6 ex6
        obtain ⟨hs7, h⟩ := h
        refine kw_iast hx hb hK I 0 rfl 6 6 (List.mem_of_getElem? (i := 5) rfl) ukModel_6 hs7 (kn_dec tX9_swaps 48 rfl) (fun v_m8 ev_m8 H locs I => ?_)
        have h := h v_m8 ev_m8
        have I : kn_I D tc (kn_A w0 s.heap.size) s.heap [(kModel, ad_m, _)] _ _ := I
        refine lv_aload_n hx hb (kn_dec tX9_swaps 49 rfl) rfl (lv_at hl 1 rfl) ?_
        refine kw_getl hx hb hts inX9 hown hK I 0 rfl rfl 9 (by decide) rfl (hts _ q4_209) (kn_dec tX9_swaps 50 rfl) rfl ?_
        refine lv_iload_n hx hb (kn_dec tX9_swaps 51 rfl) rfl (lv_at hl 2 rfl) ?_
        refine lv_iload_n hx hb (kn_dec tX9_swaps 52 rfl) rfl (lv_at hl 0 rfl) ?_
        obtain ⟨hs9, h⟩ := h
        refine kw_iast hx hb hK I 0 rfl 9 4 (List.mem_of_getElem? (i := 8) rfl) ukModel_9 hs9 (kn_dec tX9_swaps 53 rfl) (fun v_m10 ev_m10 H locs I => ?_)
        have h := h v_m10 ev_m10
        have I : kn_I D tc (kn_A w0 s.heap.size) s.heap [(kModel, ad_m, _)] _ _ := I
        exact kw_vret hx hb hr hlocks I _ rfl h (kn_dec tX9_swaps 54 rfl)
    · have h := h.2 c1
      refine lv_aload_n hx hb (kn_dec tX9_swaps 10 rfl) rfl (lv_at hl 0 rfl) ?_
      refine kw_getl hx hb hts inX9 hown hK I 0 rfl rfl 6 (by decide) rfl (hts _ q4_206) (kn_dec tX9_swaps 11 rfl) rfl ?_
      refine lv_iload_n hx hb (kn_dec tX9_swaps 12 rfl) rfl (lv_at hl 3 rfl) ?_
      obtain ⟨hs11, h⟩ := h
      refine kw_iald hx hb hK I 0 rfl 6 6 (List.mem_of_getElem? (i := 5) rfl) hs11 (kn_dec tX9_swaps 13 rfl) ?_
      refine lv_iload_n hx hb (kn_dec tX9_swaps 14 rfl) rfl (lv_at hl 2 rfl) ?_
      refine lv_iconst (v := (-1)) hx hb (kn_dec tX9_swaps 15 rfl) (by decide) ?_
      refine lv_icmp_ne (tgt := 34) hx hb (kn_dec tX9_swaps 16 rfl) (by decide) (fun c12 => ?_) (fun c12 => ?_)
      · have h := h.1 c12
        refine lv_aload_n hx hb (kn_dec tX9_swaps 22 rfl) rfl (lv_at hl 0 rfl) ?_
        refine kw_getl hx hb hts inX9 hown hK I 0 rfl rfl 6 (by decide) rfl (hts _ q4_206) (kn_dec tX9_swaps 23 rfl) rfl ?_
        refine lv_iload_n hx hb (kn_dec tX9_swaps 24 rfl) rfl (lv_at hl 2 rfl) ?_
        obtain ⟨hs13, h⟩ := h
        refine kw_iald hx hb hK I 0 rfl 6 6 (List.mem_of_getElem? (i := 5) rfl) hs13 (kn_dec tX9_swaps 25 rfl) ?_
        exact wX9_swaps_b40 X ih _ _ _ _ _ _ _ _ _  I (lv_sub hl [0, 1, 2, 3] rfl) h
      · have h := h.2 c12
        refine lv_aload_n hx hb (kn_dec tX9_swaps 17 rfl) rfl (lv_at hl 0 rfl) ?_
        refine kw_getl hx hb hts inX9 hown hK I 0 rfl rfl 9 (by decide) rfl (hts _ q4_209) (kn_dec tX9_swaps 18 rfl) rfl ?_
        refine lv_iload_n hx hb (kn_dec tX9_swaps 19 rfl) rfl (lv_at hl 1 rfl) ?_
        obtain ⟨hs14, h⟩ := h
        refine kw_iald hx hb hK I 0 rfl 9 4 (List.mem_of_getElem? (i := 8) rfl) hs14 (kn_dec tX9_swaps 20 rfl) ?_
        refine lv_goto (tgt := 40) hx hb (kn_dec tX9_swaps 21 rfl) (by decide) ?_
        exact wX9_swaps_b40 X ih _ _ _ _ _ _ _ _ _  I (lv_sub hl [0, 1, 2, 3] rfl) h
def PX9_swaps  (v_m : OV) (a1 : Int32) (post : OV → Prop) : Prop := (∃ n1 : Nat, PX9_swaps_L4 post n1 a1 ((-1 : Int32)) ((0 : Int32)) v_m)
set_option maxRecDepth 100000 in
set_option maxHeartbeats 1000000 in
theorem ctX9_swaps {l : Launch} {D : va_G} {tc : Nat → ClassId} {Z : (Nat → Nat) × (Nat → Nat)}  {ad_m : Nat → Nat} {v_m : OV} {a1 : Int32}    {post : OV → Prop} (h : PX9_swaps  v_m a1 post) : CTv l D tc Z yX9_swaps (Cond.code yX9_swaps cX9_swaps 4 none :: kn_all) rmX9_swaps 0 0 [.ref (ad_m 0), .int a1] [(kModel, ad_m, v_m)] (fun (u : OV) => [(kModel, ad_m, u)]) (fun (u : OV) => post u) := by
  refine kn_ofv (cc := cX9_swaps) (nL := 4) (ret := none) (lv := [(0, .ref (ad_m 0)), (1, .int a1)]) (by decide) (Nat.le_of_ble_eq_true rfl) rfl (fun p e s m below meth c ls X I hl _ => ?_)
  obtain ⟨S0, hr, hlocks, hK, hZ, hA⟩ := id X
  obtain ⟨hx, hb, hml, hown, hts⟩ := id S0
  unfold PX9_swaps at h
  refine lv_iconst (v := (-1)) hx hb (kn_dec tX9_swaps 0 rfl) (by decide) ?_
  refine lv_istore_n (lv' := [(2, .int _), (0, .ref (ad_m 0)), (1, .int _)]) hx hb (kn_dec tX9_swaps 1 rfl) rfl hl (by decide) rfl (fun ls hl => ?_)
  refine lv_iconst (v := (0)) hx hb (kn_dec tX9_swaps 2 rfl) (by decide) ?_
  refine lv_istore_n (lv' := [(3, .int _), (2, .int _), (0, .ref (ad_m 0)), (1, .int _)]) hx hb (kn_dec tX9_swaps 3 rfl) rfl hl (by decide) rfl (fun ls hl => ?_)
  obtain ⟨n1, h⟩ := h
  exact wX9_swaps_L4 X n1 _ _ _ _ _ _ _  I (lv_sub hl [2, 3, 1, 0] rfl) h

/-! X9_putsBack -/
abbrev rmX9_putsBack : Room := { frames := 2, cells := 0, slots := 0, locals := 46 }
def PX9_putsBack_b51   (post : OV → Prop) (t0 : Int32) (v_m : OV) : Prop := (PX9_isStone v_m t0 (fun r1 => ((r1 = ((0 : Int32)) → (∀ x4 : Int32, x4 = (v_m.2.1 1 ((7 : Int32)).toNatClampNeg) → (∀ v_m5 : OV, v_m5 = sa v_m 1 (upd (v_m.2.1 1) ((7 : Int32)).toNatClampNeg x4) → post v_m5))) ∧ (¬ r1 = ((0 : Int32)) → (∀ v_m6 : OV, v_m6 = sa v_m 1 (upd (v_m.2.1 1) ((7 : Int32)).toNatClampNeg t0) → post v_m6)))))
set_option maxRecDepth 100000 in
set_option maxHeartbeats 1000000 in
theorem wX9_putsBack_b51   {post : OV → Prop} {ad_m : Nat → Nat} (X : kn_X p s m args meth c cX9_putsBack 3 none RX9 kn_all D tc Z (kn_A w0 s.heap.size))    : ∀ (H : Heap) (locs : List Loc) (ls : Array Slot) (t0 : Int32) (v_m : OV), kn_I D tc (kn_A w0 s.heap.size) s.heap [(kModel, ad_m, v_m)] H locs → lv_has ls 3 [(0, .ref (ad_m 0))] → PX9_putsBack_b51 post t0 v_m → W p l e rmX9_putsBack s m args below meth c H locs 0 0 (kn_Qv D tc w0 (fun (u : OV) => [(kModel, ad_m, u)]) (fun (u : OV) => post u) below args s 0 0) (F0 m 51 ls [.int t0]) := by
  obtain ⟨S0, hr, hlocks, hK, hZ, hA⟩ := id X
  obtain ⟨hx, hb, hml, hown, hts⟩ := id S0
  intro H locs ls t0 v_m I hl h
  unfold PX9_putsBack_b51 at h
  refine lv_istore_n (lv' := [(2, .int _), (0, .ref (ad_m 0))]) hx hb (kn_dec tX9_putsBack 30 rfl) rfl hl (by decide) rfl (fun ls hl => ?_)
  refine lv_aload_n hx hb (kn_dec tX9_putsBack 31 rfl) rfl (lv_at hl 1 rfl) ?_
  refine kw_getl hx hb hts inX9 hown hK I 0 rfl rfl 1 (by decide) rfl (hts _ q4_201) (kn_dec tX9_putsBack 32 rfl) rfl ?_
  refine lv_bipush (v := (7)) hx hb (kn_dec tX9_putsBack 33 rfl) (by decide) ?_
  refine lv_aload_n hx hb (kn_dec tX9_putsBack 34 rfl) rfl (lv_at hl 1 rfl) ?_
  refine lv_iload_n hx hb (kn_dec tX9_putsBack 35 rfl) rfl (lv_at hl 0 rfl) ?_
  refine kw_calli (wc := [(kModel, ad_m, _)]) (wr := []) I hA [0] [] rfl rfl (by decide) (by decide) (kn_runV (As := [.int _]) S0 hK hZ hA I ((ctX9_isStone h).met _) (kn_cwV 1 hts q6_104 q6_106 q0_58 q1_10 q6_107 rfl rfl (by decide +kernel) ⟨(Nat.le_of_ble_eq_true rfl), (Nat.le_of_ble_eq_true rfl)⟩) [0] rfl (by decide) 0 rfl rfl rfl rfl hl.1 rfl (Nat.le_of_ble_eq_true rfl) (kn_dec tX9_putsBack 36 rfl) ⟨(Nat.le_of_ble_eq_true rfl), (Nat.le_of_ble_eq_true rfl)⟩) (fun r1 u2 H locs h I => ?_)
  obtain ⟨hz_r1, h⟩ := h
  have I : kn_I D tc (kn_A w0 s.heap.size) s.heap [(kModel, ad_m, _)] _ _ := I
  refine lv_if_eq (tgt := 70) hx hb (kn_dec tX9_putsBack 37 rfl) (by decide) (fun c3 => ?_) (fun c3 => ?_)
  · have h := h.1 c3
    refine lv_aload_n hx hb (kn_dec tX9_putsBack 40 rfl) rfl (lv_at hl 1 rfl) ?_
    refine kw_getl hx hb hts inX9 hown hK I 0 rfl rfl 1 (by decide) rfl (hts _ q4_201) (kn_dec tX9_putsBack 41 rfl) rfl ?_
    refine lv_bipush (v := (7)) hx hb (kn_dec tX9_putsBack 42 rfl) (by decide) ?_
    refine kw_iald hx hb hK I 0 rfl 1 12 (List.mem_of_getElem? (i := 0) rfl) (by unfold vp_in; decide) (kn_dec tX9_putsBack 43 rfl) ?_
    refine lv_topi (fun x4 ex4 => ?_)
    have h := h x4 ex4
    refine kw_iast hx hb hK I 0 rfl 1 12 (List.mem_of_getElem? (i := 0) rfl) ukModel_1 (by unfold vp_in; decide) (kn_dec tX9_putsBack 44 rfl) (fun v_m5 ev_m5 H locs I => ?_)
    have h := h v_m5 ev_m5
    have I : kn_I D tc (kn_A w0 s.heap.size) s.heap [(kModel, ad_m, _)] _ _ := I
    exact kw_vret hx hb hr hlocks I _ rfl h (kn_dec tX9_putsBack 45 rfl)
  · have h := h.2 c3
    refine lv_iload_n hx hb (kn_dec tX9_putsBack 38 rfl) rfl (lv_at hl 0 rfl) ?_
    refine lv_goto (tgt := 77) hx hb (kn_dec tX9_putsBack 39 rfl) (by decide) ?_
    refine kw_iast hx hb hK I 0 rfl 1 12 (List.mem_of_getElem? (i := 0) rfl) ukModel_1 (by unfold vp_in; decide) (kn_dec tX9_putsBack 44 rfl) (fun v_m6 ev_m6 H locs I => ?_)
    have h := h v_m6 ev_m6
    have I : kn_I D tc (kn_A w0 s.heap.size) s.heap [(kModel, ad_m, _)] _ _ := I
    exact kw_vret hx hb hr hlocks I _ rfl h (kn_dec tX9_putsBack 45 rfl)
def PX9_putsBack  (v_m : OV) (a1 : Int32) (post : OV → Prop) : Prop := (vp_in a1 4 ∧ ((¬ (v_m.2.1 10 a1.toNatClampNeg) = ((1 : Int32)) → (vp_in a1 4 ∧ ((¬ (v_m.2.1 10 a1.toNatClampNeg) = ((2 : Int32)) → PX9_putsBack_b51 post (v_m.2.1 1 ((7 : Int32)).toNatClampNeg) v_m) ∧ ((v_m.2.1 10 a1.toNatClampNeg) = ((2 : Int32)) → PX9_putsBack_b51 post ((v_m.2.1 1 ((7 : Int32)).toNatClampNeg) - ((1 : Int32))) v_m)))) ∧ ((v_m.2.1 10 a1.toNatClampNeg) = ((1 : Int32)) → PX9_putsBack_b51 post ((v_m.2.1 1 ((7 : Int32)).toNatClampNeg) + ((1 : Int32))) v_m)))
set_option maxRecDepth 100000 in
set_option maxHeartbeats 1000000 in
theorem ctX9_putsBack {l : Launch} {D : va_G} {tc : Nat → ClassId} {Z : (Nat → Nat) × (Nat → Nat)}  {ad_m : Nat → Nat} {v_m : OV} {a1 : Int32}    {post : OV → Prop} (h : PX9_putsBack  v_m a1 post) : CTv l D tc Z yX9_putsBack (Cond.code yX9_putsBack cX9_putsBack 3 none :: kn_all) rmX9_putsBack 0 0 [.ref (ad_m 0), .int a1] [(kModel, ad_m, v_m)] (fun (u : OV) => [(kModel, ad_m, u)]) (fun (u : OV) => post u) := by
  refine kn_ofv (cc := cX9_putsBack) (nL := 3) (ret := none) (lv := [(0, .ref (ad_m 0)), (1, .int a1)]) (by decide) (Nat.le_of_ble_eq_true rfl) rfl (fun p e s m below meth c ls X I hl _ => ?_)
  obtain ⟨S0, hr, hlocks, hK, hZ, hA⟩ := id X
  obtain ⟨hx, hb, hml, hown, hts⟩ := id S0
  unfold PX9_putsBack at h
  refine lv_aload_n hx hb (kn_dec tX9_putsBack 0 rfl) rfl (lv_at hl 0 rfl) ?_
  refine kw_getl hx hb hts inX9 hown hK I 0 rfl rfl 10 (by decide) rfl (hts _ q4_210) (kn_dec tX9_putsBack 1 rfl) rfl ?_
  refine lv_iload_n hx hb (kn_dec tX9_putsBack 2 rfl) rfl (lv_at hl 1 rfl) ?_
  obtain ⟨hs1, h⟩ := h
  refine kw_iald hx hb hK I 0 rfl 10 4 (List.mem_of_getElem? (i := 9) rfl) hs1 (kn_dec tX9_putsBack 3 rfl) ?_
  refine lv_iconst (v := (1)) hx hb (kn_dec tX9_putsBack 4 rfl) (by decide) ?_
  refine lv_icmp_ne (tgt := 22) hx hb (kn_dec tX9_putsBack 5 rfl) (by decide) (fun c2 => ?_) (fun c2 => ?_)
  · have h := h.1 c2
    refine lv_aload_n hx hb (kn_dec tX9_putsBack 13 rfl) rfl (lv_at hl 0 rfl) ?_
    refine kw_getl hx hb hts inX9 hown hK I 0 rfl rfl 10 (by decide) rfl (hts _ q4_210) (kn_dec tX9_putsBack 14 rfl) rfl ?_
    refine lv_iload_n hx hb (kn_dec tX9_putsBack 15 rfl) rfl (lv_at hl 1 rfl) ?_
    obtain ⟨hs3, h⟩ := h
    refine kw_iald hx hb hK I 0 rfl 10 4 (List.mem_of_getElem? (i := 9) rfl) hs3 (kn_dec tX9_putsBack 16 rfl) ?_
    refine lv_iconst (v := (2)) hx hb (kn_dec tX9_putsBack 17 rfl) (by decide) ?_
    refine lv_icmp_ne (tgt := 44) hx hb (kn_dec tX9_putsBack 18 rfl) (by decide) (fun c4 => ?_) (fun c4 => ?_)
    · have h := h.1 c4
      refine lv_aload_n hx hb (kn_dec tX9_putsBack 26 rfl) rfl (lv_at hl 0 rfl) ?_
      refine kw_getl hx hb hts inX9 hown hK I 0 rfl rfl 1 (by decide) rfl (hts _ q4_201) (kn_dec tX9_putsBack 27 rfl) rfl ?_
      refine lv_bipush (v := (7)) hx hb (kn_dec tX9_putsBack 28 rfl) (by decide) ?_
      refine kw_iald hx hb hK I 0 rfl 1 12 (List.mem_of_getElem? (i := 0) rfl) (by unfold vp_in; decide) (kn_dec tX9_putsBack 29 rfl) ?_
      exact wX9_putsBack_b51 X _ _ _ _ _  I (lv_sub hl [0] rfl) h
    · have h := h.2 c4
      refine lv_aload_n hx hb (kn_dec tX9_putsBack 19 rfl) rfl (lv_at hl 0 rfl) ?_
      refine kw_getl hx hb hts inX9 hown hK I 0 rfl rfl 1 (by decide) rfl (hts _ q4_201) (kn_dec tX9_putsBack 20 rfl) rfl ?_
      refine lv_bipush (v := (7)) hx hb (kn_dec tX9_putsBack 21 rfl) (by decide) ?_
      refine kw_iald hx hb hK I 0 rfl 1 12 (List.mem_of_getElem? (i := 0) rfl) (by unfold vp_in; decide) (kn_dec tX9_putsBack 22 rfl) ?_
      refine lv_iconst (v := (1)) hx hb (kn_dec tX9_putsBack 23 rfl) (by decide) ?_
      refine lv_isub hx hb (kn_dec tX9_putsBack 24 rfl) ?_
      refine lv_goto (tgt := 51) hx hb (kn_dec tX9_putsBack 25 rfl) (by decide) ?_
      exact wX9_putsBack_b51 X _ _ _ _ _  I (lv_sub hl [0] rfl) h
  · have h := h.2 c2
    refine lv_aload_n hx hb (kn_dec tX9_putsBack 6 rfl) rfl (lv_at hl 0 rfl) ?_
    refine kw_getl hx hb hts inX9 hown hK I 0 rfl rfl 1 (by decide) rfl (hts _ q4_201) (kn_dec tX9_putsBack 7 rfl) rfl ?_
    refine lv_bipush (v := (7)) hx hb (kn_dec tX9_putsBack 8 rfl) (by decide) ?_
    refine kw_iald hx hb hK I 0 rfl 1 12 (List.mem_of_getElem? (i := 0) rfl) (by unfold vp_in; decide) (kn_dec tX9_putsBack 9 rfl) ?_
    refine lv_iconst (v := (1)) hx hb (kn_dec tX9_putsBack 10 rfl) (by decide) ?_
    refine lv_iadd hx hb (kn_dec tX9_putsBack 11 rfl) ?_
    refine lv_goto (tgt := 51) hx hb (kn_dec tX9_putsBack 12 rfl) (by decide) ?_
    exact wX9_putsBack_b51 X _ _ _ _ _  I (lv_sub hl [0] rfl) h

/-! X9_looksFor -/
abbrev rmX9_looksFor : Room := { frames := 6, cells := 0, slots := 0, locals := 139 }
def PX9_looksFor_b56  (K8 : Int32 → Int32 → Int32 → OV → Prop) (post : Int32 → OV → Prop) (t1 : Int32) (t2 : Int32) (y1 : Int32) (y2 : Int32) (y3 : Int32) (y4 : Int32) (v_m : OV) : Prop := (vp_in t1 10 ∧ (∀ v_m2 : OV, v_m2 = sa v_m 5 (upd (v_m.2.1 5) t1.toNatClampNeg t2) → (vp_in y1 4 ∧ (∀ x4 : Int32, x4 = ((v_m2.2.1 13 y1.toNatClampNeg) ||| (((1 : Int32)) <<< (y4 &&& 31))) → (vp_in y1 4 ∧ (∀ v_m6 : OV, v_m6 = sa v_m2 13 (upd (v_m2.2.1 13) y1.toNatClampNeg x4) → (∀ x7 : Int32, x7 = y3 + (1 : Int32) → K8 y1 y2 x7 v_m6)))))))
set_option maxRecDepth 100000 in
set_option maxHeartbeats 1000000 in
theorem wX9_looksFor_b56  {K8 : Int32 → Int32 → Int32 → OV → Prop} {post : Int32 → OV → Prop} {ad_m : Nat → Nat} (X : kn_X p s m args meth c cX9_looksFor 5 (some .boolean) RX9 kn_all D tc Z (kn_A w0 s.heap.size))   (hK8 : ∀ (H : Heap) (locs : List Loc) (ls : Array Slot) (y1 : Int32) (y2 : Int32) (y3 : Int32) (v_m : OV), (hz_y2 : y2 = 0 ∨ y2 = 1) → kn_I D tc (kn_A w0 s.heap.size) s.heap [(kModel, ad_m, v_m)] H locs → lv_has ls 5 [(0, .ref (ad_m 0)), (1, .int y1), (2, .int y2), (3, .int y3)] → K8 y1 y2 y3 v_m → W p l e rmX9_looksFor s m args below meth c H locs 0 0 (kn_Qi D tc w0 (fun (u : OV) => [(kModel, ad_m, u)]) (fun (r : Int32) (u : OV) => (r = 0 ∨ r = 1) ∧ post r u) below args s 0 0) (F0 m 8 ls [])) : ∀ (H : Heap) (locs : List Loc) (ls : Array Slot) (t1 : Int32) (t2 : Int32) (y1 : Int32) (y2 : Int32) (y3 : Int32) (y4 : Int32) (v_m : OV), (hz_y2 : y2 = 0 ∨ y2 = 1) → kn_I D tc (kn_A w0 s.heap.size) s.heap [(kModel, ad_m, v_m)] H locs → lv_has ls 5 [(0, .ref (ad_m 0)), (1, .int y1), (2, .int y2), (3, .int y3), (4, .int y4)] → PX9_looksFor_b56 K8 post t1 t2 y1 y2 y3 y4 v_m → W p l e rmX9_looksFor s m args below meth c H locs 0 0 (kn_Qi D tc w0 (fun (u : OV) => [(kModel, ad_m, u)]) (fun (r : Int32) (u : OV) => (r = 0 ∨ r = 1) ∧ post r u) below args s 0 0) (F0 m 56 ls [.int t2, .int t1, .ref (ad_m (5 + 1))]) := by
  obtain ⟨S0, hr, hlocks, hK, hZ, hA⟩ := id X
  obtain ⟨hx, hb, hml, hown, hts⟩ := id S0
  intro H locs ls t1 t2 y1 y2 y3 y4 v_m hz_y2 I hl h
  unfold PX9_looksFor_b56 at h
  obtain ⟨hs1, h⟩ := h
  refine kw_iast hx hb hK I 0 rfl 5 10 (List.mem_of_getElem? (i := 4) rfl) ukModel_5 hs1 (kn_dec tX9_looksFor 32 rfl) (fun v_m2 ev_m2 H locs I => ?_)
  have h := h v_m2 ev_m2
  have I : kn_I D tc (kn_A w0 s.heap.size) s.heap [(kModel, ad_m, _)] _ _ := I
  refine lv_aload_n hx hb (kn_dec tX9_looksFor 33 rfl) rfl (lv_at hl 0 rfl) ?_
  refine kw_getl hx hb hts inX9 hown hK I 0 rfl rfl 13 (by decide) rfl (hts _ q4_213) (kn_dec tX9_looksFor 34 rfl) rfl ?_
  refine lv_iload_n hx hb (kn_dec tX9_looksFor 35 rfl) rfl (lv_at hl 1 rfl) ?_
  refine lv_dup2_11 hx hb (kn_dec tX9_looksFor 36 rfl) rfl rfl ?_
  obtain ⟨hs3, h⟩ := h
  refine kw_iald hx hb hK I 0 rfl 13 4 (List.mem_of_getElem? (i := 12) rfl) hs3 (kn_dec tX9_looksFor 37 rfl) ?_
  refine lv_iconst (v := (1)) hx hb (kn_dec tX9_looksFor 38 rfl) (by decide) ?_
  refine lv_iload hx hb (kn_dec tX9_looksFor 39 rfl) (lv_at hl 4 rfl) ?_
  refine lv_ishl hx hb (kn_dec tX9_looksFor 40 rfl) ?_
  refine lv_ior hx hb (kn_dec tX9_looksFor 41 rfl) ?_
  refine lv_topi (fun x4 ex4 => ?_)
  have h := h x4 ex4
  obtain ⟨hs5, h⟩ := h
  refine kw_iast hx hb hK I 0 rfl 13 4 (List.mem_of_getElem? (i := 12) rfl) ukModel_13 hs5 (kn_dec tX9_looksFor 42 rfl) (fun v_m6 ev_m6 H locs I => ?_)
  have h := h v_m6 ev_m6
  have I : kn_I D tc (kn_A w0 s.heap.size) s.heap [(kModel, ad_m, _)] _ _ := I
  refine kw_iinc (lvf := fun y => [(3, .int y), (0, .ref (ad_m 0)), (1, .int _), (2, .int _), (4, .int _)]) (nv := (1)) hx hb (kn_dec tX9_looksFor 43 rfl) hl (k := 3) rfl (by decide) (by decide) (fun _ => rfl) (fun x7 ex7 ls hl => ?_)
  have h := h x7 ex7
  refine lv_goto (tgt := 8) hx hb (kn_dec tX9_looksFor 44 rfl) (by decide) ?_
  exact hK8 _ _ _ _ _ _ _ hz_y2 I (lv_sub hl [1, 2, 3, 0] rfl) h
def PX9_looksFor_L8   (post : Int32 → OV → Prop) : Nat → Int32 → Int32 → Int32 → OV → Prop
  | 0, _, _, _, _ => False
  | n + 1, y1, y2, y3, v_m => (((v_m.1 53) ≤ y3 → ((y2 = ((0 : Int32)) → (vp_in y1 4 ∧ ((((99 : Int32)) ≤ (v_m.2.1 12 y1.toNatClampNeg) → (vp_in y1 4 ∧ (∀ v_m6 : OV, v_m6 = sa v_m 12 (upd (v_m.2.1 12) y1.toNatClampNeg ((99 : Int32))) → post y2 v_m6))) ∧ (¬ ((99 : Int32)) ≤ (v_m.2.1 12 y1.toNatClampNeg) → (vp_in y1 4 ∧ (∀ x8 : Int32, x8 = ((v_m.2.1 12 y1.toNatClampNeg) + ((1 : Int32))) → (vp_in y1 4 ∧ (∀ v_m10 : OV, v_m10 = sa v_m 12 (upd (v_m.2.1 12) y1.toNatClampNeg x8) → post y2 v_m10)))))))) ∧ (¬ y2 = ((0 : Int32)) → (∀ x11 : Int32, x11 = (v_m.2.1 1 ((8 : Int32)).toNatClampNeg) → (vp_in y1 4 ∧ (∀ v_m13 : OV, v_m13 = sa v_m 11 (upd (v_m.2.1 11) y1.toNatClampNeg x11) → (PX9_swaps v_m13 y1 (fun v_m14 => (PX9_putsBack v_m14 y1 (fun v_m16 => post y2 v_m16)))))))))) ∧ (¬ (v_m.1 53) ≤ y3 → (vp_in y3 10 ∧ (∀ x19 : Int32, x19 = (v_m.2.1 51 y3.toNatClampNeg) → (vp_in x19 10 ∧ ((((99 : Int32)) ≤ (v_m.2.1 5 x19.toNatClampNeg) → PX9_looksFor_b56 (PX9_looksFor_L8 post n) post x19 ((99 : Int32)) y1 y2 y3 x19 v_m) ∧ (¬ ((99 : Int32)) ≤ (v_m.2.1 5 x19.toNatClampNeg) → (vp_in x19 10 ∧ PX9_looksFor_b56 (PX9_looksFor_L8 post n) post x19 ((v_m.2.1 5 x19.toNatClampNeg) + ((1 : Int32))) y1 y2 y3 x19 v_m))))))))
set_option maxRecDepth 100000 in
set_option maxHeartbeats 1000000 in
theorem wX9_looksFor_L8   {post : Int32 → OV → Prop} {ad_m : Nat → Nat} (X : kn_X p s m args meth c cX9_looksFor 5 (some .boolean) RX9 kn_all D tc Z (kn_A w0 s.heap.size))    : ∀ n : Nat, ∀ (H : Heap) (locs : List Loc) (ls : Array Slot) (y1 : Int32) (y2 : Int32) (y3 : Int32) (v_m : OV), (hz_y2 : y2 = 0 ∨ y2 = 1) → kn_I D tc (kn_A w0 s.heap.size) s.heap [(kModel, ad_m, v_m)] H locs → lv_has ls 5 [(0, .ref (ad_m 0)), (1, .int y1), (2, .int y2), (3, .int y3)] → PX9_looksFor_L8 post n y1 y2 y3 v_m → W p l e rmX9_looksFor s m args below meth c H locs 0 0 (kn_Qi D tc w0 (fun (u : OV) => [(kModel, ad_m, u)]) (fun (r : Int32) (u : OV) => (r = 0 ∨ r = 1) ∧ post r u) below args s 0 0) (F0 m 8 ls []) := by
  obtain ⟨S0, hr, hlocks, hK, hZ, hA⟩ := id X
  obtain ⟨hx, hb, hml, hown, hts⟩ := id S0
  intro n
  induction n with
  | zero =>
    intro H locs ls y1 y2 y3 v_m hz_y2 I hl h
    unfold PX9_looksFor_L8 at h
    exact h.elim
  | succ n ih =>
    intro H locs ls y1 y2 y3 v_m hz_y2 I hl h
    unfold PX9_looksFor_L8 at h
    refine lv_iload_n hx hb (kn_dec tX9_looksFor 6 rfl) rfl (lv_at hl 3 rfl) ?_
    refine lv_aload_n hx hb (kn_dec tX9_looksFor 7 rfl) rfl (lv_at hl 0 rfl) ?_
    refine kw_geti hx hb hts inX9 hown hK I 0 rfl rfl 53 (by decide) rfl (hts _ q5_13) (kn_dec tX9_looksFor 8 rfl) ?_
    refine lv_icmp_ge (tgt := 76) hx hb (kn_dec tX9_looksFor 9 rfl) (by decide) (fun c1 => ?_) (fun c1 => ?_)
    · have h := h.1 c1
      refine lv_iload_n hx hb (kn_dec tX9_looksFor 45 rfl) rfl (lv_at hl 2 rfl) ?_
      refine lv_if_eq (tgt := 106) hx hb (kn_dec tX9_looksFor 46 rfl) (by decide) (fun c2 => ?_) (fun c2 => ?_)
      · have h := h.1 c2
        refine lv_aload_n hx hb (kn_dec tX9_looksFor 62 rfl) rfl (lv_at hl 0 rfl) ?_
        refine kw_getl hx hb hts inX9 hown hK I 0 rfl rfl 12 (by decide) rfl (hts _ q4_212) (kn_dec tX9_looksFor 63 rfl) rfl ?_
        refine lv_iload_n hx hb (kn_dec tX9_looksFor 64 rfl) rfl (lv_at hl 1 rfl) ?_
        refine lv_aload_n hx hb (kn_dec tX9_looksFor 65 rfl) rfl (lv_at hl 0 rfl) ?_
        refine kw_getl hx hb hts inX9 hown hK I 0 rfl rfl 12 (by decide) rfl (hts _ q4_212) (kn_dec tX9_looksFor 66 rfl) rfl ?_
        refine lv_iload_n hx hb (kn_dec tX9_looksFor 67 rfl) rfl (lv_at hl 1 rfl) ?_
        obtain ⟨hs3, h⟩ := h
        refine kw_iald hx hb hK I 0 rfl 12 4 (List.mem_of_getElem? (i := 11) rfl) hs3 (kn_dec tX9_looksFor 68 rfl) ?_
        refine lv_bipush (v := (99)) hx hb (kn_dec tX9_looksFor 69 rfl) (by decide) ?_
        refine lv_icmp_ge (tgt := 133) hx hb (kn_dec tX9_looksFor 70 rfl) (by decide) (fun c4 => ?_) (fun c4 => ?_)
        · have h := h.1 c4
          refine lv_bipush (v := (99)) hx hb (kn_dec tX9_looksFor 78 rfl) (by decide) ?_
          obtain ⟨hs5, h⟩ := h
          refine kw_iast hx hb hK I 0 rfl 12 4 (List.mem_of_getElem? (i := 11) rfl) ukModel_12 hs5 (kn_dec tX9_looksFor 79 rfl) (fun v_m6 ev_m6 H locs I => ?_)
          have h := h v_m6 ev_m6
          have I : kn_I D tc (kn_A w0 s.heap.size) s.heap [(kModel, ad_m, _)] _ _ := I
          refine lv_iload_n hx hb (kn_dec tX9_looksFor 80 rfl) rfl (lv_at hl 2 rfl) ?_
          exact kw_zret hx hb hr (kn_nz hz_y2) hlocks I _ rfl ⟨hz_y2, h⟩ (kn_dec tX9_looksFor 81 rfl)
        · have h := h.2 c4
          refine lv_aload_n hx hb (kn_dec tX9_looksFor 71 rfl) rfl (lv_at hl 0 rfl) ?_
          refine kw_getl hx hb hts inX9 hown hK I 0 rfl rfl 12 (by decide) rfl (hts _ q4_212) (kn_dec tX9_looksFor 72 rfl) rfl ?_
          refine lv_iload_n hx hb (kn_dec tX9_looksFor 73 rfl) rfl (lv_at hl 1 rfl) ?_
          obtain ⟨hs7, h⟩ := h
          refine kw_iald hx hb hK I 0 rfl 12 4 (List.mem_of_getElem? (i := 11) rfl) hs7 (kn_dec tX9_looksFor 74 rfl) ?_
          refine lv_iconst (v := (1)) hx hb (kn_dec tX9_looksFor 75 rfl) (by decide) ?_
          refine lv_iadd hx hb (kn_dec tX9_looksFor 76 rfl) ?_
          refine lv_goto (tgt := 135) hx hb (kn_dec tX9_looksFor 77 rfl) (by decide) ?_
          refine lv_topi (fun x8 ex8 => ?_)
          have h := h x8 ex8
          obtain ⟨hs9, h⟩ := h
          refine kw_iast hx hb hK I 0 rfl 12 4 (List.mem_of_getElem? (i := 11) rfl) ukModel_12 hs9 (kn_dec tX9_looksFor 79 rfl) (fun v_m10 ev_m10 H locs I => ?_)
          have h := h v_m10 ev_m10
          have I : kn_I D tc (kn_A w0 s.heap.size) s.heap [(kModel, ad_m, _)] _ _ := I
          refine lv_iload_n hx hb (kn_dec tX9_looksFor 80 rfl) rfl (lv_at hl 2 rfl) ?_
          exact kw_zret hx hb hr (kn_nz hz_y2) hlocks I _ rfl ⟨hz_y2, h⟩ (kn_dec tX9_looksFor 81 rfl)
      · have h := h.2 c2
        refine lv_aload_n hx hb (kn_dec tX9_looksFor 47 rfl) rfl (lv_at hl 0 rfl) ?_
        refine kw_getl hx hb hts inX9 hown hK I 0 rfl rfl 11 (by decide) rfl (hts _ q4_211) (kn_dec tX9_looksFor 48 rfl) rfl ?_
        refine lv_iload_n hx hb (kn_dec tX9_looksFor 49 rfl) rfl (lv_at hl 1 rfl) ?_
        refine lv_aload_n hx hb (kn_dec tX9_looksFor 50 rfl) rfl (lv_at hl 0 rfl) ?_
        refine kw_getl hx hb hts inX9 hown hK I 0 rfl rfl 1 (by decide) rfl (hts _ q4_201) (kn_dec tX9_looksFor 51 rfl) rfl ?_
        refine lv_bipush (v := (8)) hx hb (kn_dec tX9_looksFor 52 rfl) (by decide) ?_
        refine kw_iald hx hb hK I 0 rfl 1 12 (List.mem_of_getElem? (i := 0) rfl) (by unfold vp_in; decide) (kn_dec tX9_looksFor 53 rfl) ?_
        refine lv_topi (fun x11 ex11 => ?_)
        have h := h x11 ex11
        obtain ⟨hs12, h⟩ := h
        refine kw_iast hx hb hK I 0 rfl 11 4 (List.mem_of_getElem? (i := 10) rfl) ukModel_11 hs12 (kn_dec tX9_looksFor 54 rfl) (fun v_m13 ev_m13 H locs I => ?_)
        have h := h v_m13 ev_m13
        have I : kn_I D tc (kn_A w0 s.heap.size) s.heap [(kModel, ad_m, _)] _ _ := I
        refine lv_aload_n hx hb (kn_dec tX9_looksFor 55 rfl) rfl (lv_at hl 0 rfl) ?_
        refine lv_iload_n hx hb (kn_dec tX9_looksFor 56 rfl) rfl (lv_at hl 1 rfl) ?_
        refine kw_callv (wc := [(kModel, ad_m, _)]) (wr := []) I hA [0] [] rfl rfl (by decide) (by decide) (kn_runV (As := [.int _]) S0 hK hZ hA I ((ctX9_swaps h).met _) (kn_cwV 1 hts q6_199 q6_201 q0_74 q1_10 q6_202 rfl rfl (by decide +kernel) ⟨(Nat.le_of_ble_eq_true rfl), (Nat.le_of_ble_eq_true rfl)⟩) [0] rfl (by decide) 0 rfl rfl rfl rfl hl.1 rfl (Nat.le_of_ble_eq_true rfl) (kn_dec tX9_looksFor 57 rfl) ⟨(Nat.le_of_ble_eq_true rfl), (Nat.le_of_ble_eq_true rfl)⟩) (fun u15 H locs h I => ?_)
        have I : kn_I D tc (kn_A w0 s.heap.size) s.heap [(kModel, ad_m, _)] _ _ := I
        refine lv_aload_n hx hb (kn_dec tX9_looksFor 58 rfl) rfl (lv_at hl 0 rfl) ?_
        refine lv_iload_n hx hb (kn_dec tX9_looksFor 59 rfl) rfl (lv_at hl 1 rfl) ?_
        refine kw_callv (wc := [(kModel, ad_m, _)]) (wr := []) I hA [0] [] rfl rfl (by decide) (by decide) (kn_runV (As := [.int _]) S0 hK hZ hA I ((ctX9_putsBack h).met _) (kn_cwV 1 hts q6_203 q6_205 q0_75 q1_10 q6_206 rfl rfl (by decide +kernel) ⟨(Nat.le_of_ble_eq_true rfl), (Nat.le_of_ble_eq_true rfl)⟩) [0] rfl (by decide) 0 rfl rfl rfl rfl hl.1 rfl (Nat.le_of_ble_eq_true rfl) (kn_dec tX9_looksFor 60 rfl) ⟨(Nat.le_of_ble_eq_true rfl), (Nat.le_of_ble_eq_true rfl)⟩) (fun u17 H locs h I => ?_)
        have I : kn_I D tc (kn_A w0 s.heap.size) s.heap [(kModel, ad_m, _)] _ _ := I
        refine lv_goto (tgt := 136) hx hb (kn_dec tX9_looksFor 61 rfl) (by decide) ?_
        refine lv_iload_n hx hb (kn_dec tX9_looksFor 80 rfl) rfl (lv_at hl 2 rfl) ?_
        exact kw_zret hx hb hr (kn_nz hz_y2) hlocks I _ rfl ⟨hz_y2, h⟩ (kn_dec tX9_looksFor 81 rfl)
    · have h := h.2 c1
      refine lv_aload_n hx hb (kn_dec tX9_looksFor 10 rfl) rfl (lv_at hl 0 rfl) ?_
      refine kw_getl hx hb hts inX9 hown hK I 0 rfl rfl 51 (by decide) rfl (hts _ q5_11) (kn_dec tX9_looksFor 11 rfl) rfl ?_
      refine lv_iload_n hx hb (kn_dec tX9_looksFor 12 rfl) rfl (lv_at hl 3 rfl) ?_
      obtain ⟨hs18, h⟩ := h
      refine kw_iald hx hb hK I 0 rfl 51 10 (List.mem_of_getElem? (i := 39) rfl) hs18 (kn_dec tX9_looksFor 13 rfl) ?_
      refine lv_topi (fun x19 ex19 => ?_)
      have h := h x19 ex19
      refine lv_istore (lv' := [(4, .int _), (0, .ref (ad_m 0)), (1, .int _), (2, .int _), (3, .int _)]) hx hb (kn_dec tX9_looksFor 14 rfl) hl (by decide) rfl (fun ls hl => ?_)
      refine lv_aload_n hx hb (kn_dec tX9_looksFor 15 rfl) rfl (lv_at hl 1 rfl) ?_
      refine kw_getl hx hb hts inX9 hown hK I 0 rfl rfl 5 (by decide) rfl (hts _ q4_205) (kn_dec tX9_looksFor 16 rfl) rfl ?_
      refine lv_iload hx hb (kn_dec tX9_looksFor 17 rfl) (lv_at hl 0 rfl) ?_
      refine lv_aload_n hx hb (kn_dec tX9_looksFor 18 rfl) rfl (lv_at hl 1 rfl) ?_
      refine kw_getl hx hb hts inX9 hown hK I 0 rfl rfl 5 (by decide) rfl (hts _ q4_205) (kn_dec tX9_looksFor 19 rfl) rfl ?_
      refine lv_iload hx hb (kn_dec tX9_looksFor 20 rfl) (lv_at hl 0 rfl) ?_
      obtain ⟨hs20, h⟩ := h
      refine kw_iald hx hb hK I 0 rfl 5 10 (List.mem_of_getElem? (i := 4) rfl) hs20 (kn_dec tX9_looksFor 21 rfl) ?_
      refine lv_bipush (v := (99)) hx hb (kn_dec tX9_looksFor 22 rfl) (by decide) ?_
      refine lv_icmp_ge (tgt := 54) hx hb (kn_dec tX9_looksFor 23 rfl) (by decide) (fun c21 => ?_) (fun c21 => ?_)
      · have h := h.1 c21
        refine lv_bipush (v := (99)) hx hb (kn_dec tX9_looksFor 31 rfl) (by decide) ?_
        exact wX9_looksFor_b56 X ih _ _ _ _ _ _ _ _ _ _ hz_y2 I (lv_sub hl [1, 2, 3, 4, 0] rfl) h
      · have h := h.2 c21
        refine lv_aload_n hx hb (kn_dec tX9_looksFor 24 rfl) rfl (lv_at hl 1 rfl) ?_
        refine kw_getl hx hb hts inX9 hown hK I 0 rfl rfl 5 (by decide) rfl (hts _ q4_205) (kn_dec tX9_looksFor 25 rfl) rfl ?_
        refine lv_iload hx hb (kn_dec tX9_looksFor 26 rfl) (lv_at hl 0 rfl) ?_
        obtain ⟨hs22, h⟩ := h
        refine kw_iald hx hb hK I 0 rfl 5 10 (List.mem_of_getElem? (i := 4) rfl) hs22 (kn_dec tX9_looksFor 27 rfl) ?_
        refine lv_iconst (v := (1)) hx hb (kn_dec tX9_looksFor 28 rfl) (by decide) ?_
        refine lv_iadd hx hb (kn_dec tX9_looksFor 29 rfl) ?_
        refine lv_goto (tgt := 56) hx hb (kn_dec tX9_looksFor 30 rfl) (by decide) ?_
        exact wX9_looksFor_b56 X ih _ _ _ _ _ _ _ _ _ _ hz_y2 I (lv_sub hl [1, 2, 3, 4, 0] rfl) h
def PX9_looksFor  (v_m : OV) (a1 : Int32) (post : Int32 → OV → Prop) : Prop := (PX9_laysLooking v_m a1 (fun r2 v_m1 => (∃ n4 : Nat, PX9_looksFor_L8 post n4 a1 r2 ((0 : Int32)) v_m1)))
set_option maxRecDepth 100000 in
set_option maxHeartbeats 1000000 in
theorem ctX9_looksFor {l : Launch} {D : va_G} {tc : Nat → ClassId} {Z : (Nat → Nat) × (Nat → Nat)}  {ad_m : Nat → Nat} {v_m : OV} {a1 : Int32}    {post : Int32 → OV → Prop} (h : PX9_looksFor  v_m a1 post) : CTi l D tc Z yX9_looksFor (Cond.code yX9_looksFor cX9_looksFor 5 (some .boolean) :: kn_all) rmX9_looksFor 0 0 [.ref (ad_m 0), .int a1] [(kModel, ad_m, v_m)] (fun (u : OV) => [(kModel, ad_m, u)]) (fun (r : Int32) (u : OV) => (r = 0 ∨ r = 1) ∧ post r u) := by
  refine kn_ofi (cc := cX9_looksFor) (nL := 5) (ret := (some .boolean)) (lv := [(0, .ref (ad_m 0)), (1, .int a1)]) (by decide) (Nat.le_of_ble_eq_true rfl) rfl (fun p e s m below meth c ls X I hl _ => ?_)
  obtain ⟨S0, hr, hlocks, hK, hZ, hA⟩ := id X
  obtain ⟨hx, hb, hml, hown, hts⟩ := id S0
  unfold PX9_looksFor at h
  refine lv_aload_n hx hb (kn_dec tX9_looksFor 0 rfl) rfl (lv_at hl 0 rfl) ?_
  refine lv_iload_n hx hb (kn_dec tX9_looksFor 1 rfl) rfl (lv_at hl 1 rfl) ?_
  refine kw_calli (wc := [(kModel, ad_m, _)]) (wr := []) I hA [0] [] rfl rfl (by decide) (by decide) (kn_runV (As := [.int _]) S0 hK hZ hA I ((ctX9_laysLooking h).met _) (kn_cwV 1 hts q6_163 q6_165 q0_68 q1_10 q6_166 rfl rfl (by decide +kernel) ⟨(Nat.le_of_ble_eq_true rfl), (Nat.le_of_ble_eq_true rfl)⟩) [0] rfl (by decide) 0 rfl rfl rfl rfl hl.1 rfl (Nat.le_of_ble_eq_true rfl) (kn_dec tX9_looksFor 2 rfl) ⟨(Nat.le_of_ble_eq_true rfl), (Nat.le_of_ble_eq_true rfl)⟩) (fun r2 u3 H locs h I => ?_)
  obtain ⟨hz_r2, h⟩ := h
  have I : kn_I D tc (kn_A _ s.heap.size) s.heap [(kModel, ad_m, _)] _ _ := I
  refine lv_istore_n (lv' := [(2, .int _), (0, .ref (ad_m 0)), (1, .int _)]) hx hb (kn_dec tX9_looksFor 3 rfl) rfl hl (by decide) rfl (fun ls hl => ?_)
  refine lv_iconst (v := (0)) hx hb (kn_dec tX9_looksFor 4 rfl) (by decide) ?_
  refine lv_istore_n (lv' := [(3, .int _), (2, .int _), (0, .ref (ad_m 0)), (1, .int _)]) hx hb (kn_dec tX9_looksFor 5 rfl) rfl hl (by decide) rfl (fun ls hl => ?_)
  obtain ⟨n4, h⟩ := h
  exact wX9_looksFor_L8 X n4 _ _ _ _ _ _ _ hz_r2 I (lv_sub hl [2, 3, 1, 0] rfl) h

/-! X9_walksBy -/
abbrev rmX9_walksBy : Room := { frames := 1, cells := 0, slots := 0, locals := 22 }
def PX9_walksBy_b54   (post : OV → Prop) (v_m : OV) : Prop := (∀ x1 : Int32, x1 = ((v_m.2.1 1 ((8 : Int32)).toNatClampNeg) + ((1 : Int32))) → (∀ v_m2 : OV, v_m2 = sa v_m 1 (upd (v_m.2.1 1) ((8 : Int32)).toNatClampNeg x1) → post v_m2))
set_option maxRecDepth 100000 in
set_option maxHeartbeats 1000000 in
theorem wX9_walksBy_b54   {post : OV → Prop} {ad_m : Nat → Nat} (X : kn_X p s m args meth c cX9_walksBy 1 none RX9 kn_all D tc Z (kn_A w0 s.heap.size))    : ∀ (H : Heap) (locs : List Loc) (ls : Array Slot) (v_m : OV), kn_I D tc (kn_A w0 s.heap.size) s.heap [(kModel, ad_m, v_m)] H locs → lv_has ls 1 [(0, .ref (ad_m 0))] → PX9_walksBy_b54 post v_m → W p l e rmX9_walksBy s m args below meth c H locs 0 0 (kn_Qv D tc w0 (fun (u : OV) => [(kModel, ad_m, u)]) (fun (u : OV) => post u) below args s 0 0) (F0 m 54 ls []) := by
  obtain ⟨S0, hr, hlocks, hK, hZ, hA⟩ := id X
  obtain ⟨hx, hb, hml, hown, hts⟩ := id S0
  intro H locs ls v_m I hl h
  unfold PX9_walksBy_b54 at h
  refine lv_aload_n hx hb (kn_dec tX9_walksBy 30 rfl) rfl (lv_at hl 0 rfl) ?_
  refine kw_getl hx hb hts inX9 hown hK I 0 rfl rfl 1 (by decide) rfl (hts _ q4_201) (kn_dec tX9_walksBy 31 rfl) rfl ?_
  refine lv_bipush (v := (8)) hx hb (kn_dec tX9_walksBy 32 rfl) (by decide) ?_
  refine lv_dup2_11 hx hb (kn_dec tX9_walksBy 33 rfl) rfl rfl ?_
  refine kw_iald hx hb hK I 0 rfl 1 12 (List.mem_of_getElem? (i := 0) rfl) (by unfold vp_in; decide) (kn_dec tX9_walksBy 34 rfl) ?_
  refine lv_iconst (v := (1)) hx hb (kn_dec tX9_walksBy 35 rfl) (by decide) ?_
  refine lv_iadd hx hb (kn_dec tX9_walksBy 36 rfl) ?_
  refine lv_topi (fun x1 ex1 => ?_)
  have h := h x1 ex1
  refine kw_iast hx hb hK I 0 rfl 1 12 (List.mem_of_getElem? (i := 0) rfl) ukModel_1 (by unfold vp_in; decide) (kn_dec tX9_walksBy 37 rfl) (fun v_m2 ev_m2 H locs I => ?_)
  have h := h v_m2 ev_m2
  have I : kn_I D tc (kn_A w0 s.heap.size) s.heap [(kModel, ad_m, _)] _ _ := I
  exact kw_vret hx hb hr hlocks I _ rfl h (kn_dec tX9_walksBy 38 rfl)
def PX9_walksBy  (v_m : OV) (post : OV → Prop) : Prop := (PX9_doWalk v_m (v_m.2.1 1 ((8 : Int32)).toNatClampNeg) (fun r1 => ((r1 = ((0 : Int32)) → PX9_walksBy_b54 post v_m) ∧ (¬ r1 = ((0 : Int32)) → (((v_m.2.1 1 ((7 : Int32)).toNatClampNeg) = ((-1 : Int32)) → PX9_walksBy_b54 post v_m) ∧ (¬ (v_m.2.1 1 ((7 : Int32)).toNatClampNeg) = ((-1 : Int32)) → (vp_in (v_m.2.1 1 ((7 : Int32)).toNatClampNeg) 10 ∧ (((v_m.2.1 5 (v_m.2.1 1 ((7 : Int32)).toNatClampNeg).toNatClampNeg) < (v_m.2.1 1 ((1 : Int32)).toNatClampNeg) → PX9_walksBy_b54 post v_m) ∧ (¬ (v_m.2.1 5 (v_m.2.1 1 ((7 : Int32)).toNatClampNeg).toNatClampNeg) < (v_m.2.1 1 ((1 : Int32)).toNatClampNeg) → (∀ v_m7 : OV, v_m7 = sa v_m 1 (upd (v_m.2.1 1) ((7 : Int32)).toNatClampNeg ((-1 : Int32))) → PX9_walksBy_b54 post v_m7))))))))))
set_option maxRecDepth 100000 in
set_option maxHeartbeats 1000000 in
theorem ctX9_walksBy {l : Launch} {D : va_G} {tc : Nat → ClassId} {Z : (Nat → Nat) × (Nat → Nat)}  {ad_m : Nat → Nat} {v_m : OV}    {post : OV → Prop} (h : PX9_walksBy  v_m post) : CTv l D tc Z yX9_walksBy (Cond.code yX9_walksBy cX9_walksBy 1 none :: kn_all) rmX9_walksBy 0 0 [.ref (ad_m 0)] [(kModel, ad_m, v_m)] (fun (u : OV) => [(kModel, ad_m, u)]) (fun (u : OV) => post u) := by
  refine kn_ofv (cc := cX9_walksBy) (nL := 1) (ret := none) (lv := [(0, .ref (ad_m 0))]) (by decide) (Nat.le_of_ble_eq_true rfl) rfl (fun p e s m below meth c ls X I hl _ => ?_)
  obtain ⟨S0, hr, hlocks, hK, hZ, hA⟩ := id X
  obtain ⟨hx, hb, hml, hown, hts⟩ := id S0
  unfold PX9_walksBy at h
  refine lv_aload_n hx hb (kn_dec tX9_walksBy 0 rfl) rfl (lv_at hl 0 rfl) ?_
  refine lv_aload_n hx hb (kn_dec tX9_walksBy 1 rfl) rfl (lv_at hl 0 rfl) ?_
  refine kw_getl hx hb hts inX9 hown hK I 0 rfl rfl 1 (by decide) rfl (hts _ q4_201) (kn_dec tX9_walksBy 2 rfl) rfl ?_
  refine lv_bipush (v := (8)) hx hb (kn_dec tX9_walksBy 3 rfl) (by decide) ?_
  refine kw_iald hx hb hK I 0 rfl 1 12 (List.mem_of_getElem? (i := 0) rfl) (by unfold vp_in; decide) (kn_dec tX9_walksBy 4 rfl) ?_
  refine kw_calli (wc := [(kModel, ad_m, _)]) (wr := []) I hA [0] [] rfl rfl (by decide) (by decide) (kn_runV (As := [.int _]) S0 hK hZ hA I ((ctX9_doWalk h).met _) (kn_cwV 1 hts q6_211 q6_213 q0_77 q1_10 q6_214 rfl rfl (by decide +kernel) ⟨(Nat.le_of_ble_eq_true rfl), (Nat.le_of_ble_eq_true rfl)⟩) [0] rfl (by decide) 0 rfl rfl rfl rfl hl.1 rfl (Nat.le_of_ble_eq_true rfl) (kn_dec tX9_walksBy 5 rfl) ⟨(Nat.le_of_ble_eq_true rfl), (Nat.le_of_ble_eq_true rfl)⟩) (fun r1 u2 H locs h I => ?_)
  obtain ⟨hz_r1, h⟩ := h
  have I : kn_I D tc (kn_A _ s.heap.size) s.heap [(kModel, ad_m, _)] _ _ := I
  refine lv_if_eq (tgt := 54) hx hb (kn_dec tX9_walksBy 6 rfl) (by decide) (fun c3 => ?_) (fun c3 => ?_)
  · have h := h.1 c3
    exact wX9_walksBy_b54 X _ _ _ _  I (lv_sub hl [0] rfl) h
  · have h := h.2 c3
    refine lv_aload_n hx hb (kn_dec tX9_walksBy 7 rfl) rfl (lv_at hl 0 rfl) ?_
    refine kw_getl hx hb hts inX9 hown hK I 0 rfl rfl 1 (by decide) rfl (hts _ q4_201) (kn_dec tX9_walksBy 8 rfl) rfl ?_
    refine lv_bipush (v := (7)) hx hb (kn_dec tX9_walksBy 9 rfl) (by decide) ?_
    refine kw_iald hx hb hK I 0 rfl 1 12 (List.mem_of_getElem? (i := 0) rfl) (by unfold vp_in; decide) (kn_dec tX9_walksBy 10 rfl) ?_
    refine lv_iconst (v := (-1)) hx hb (kn_dec tX9_walksBy 11 rfl) (by decide) ?_
    refine lv_icmp_eq (tgt := 54) hx hb (kn_dec tX9_walksBy 12 rfl) (by decide) (fun c4 => ?_) (fun c4 => ?_)
    · have h := h.1 c4
      exact wX9_walksBy_b54 X _ _ _ _  I (lv_sub hl [0] rfl) h
    · have h := h.2 c4
      refine lv_aload_n hx hb (kn_dec tX9_walksBy 13 rfl) rfl (lv_at hl 0 rfl) ?_
      refine kw_getl hx hb hts inX9 hown hK I 0 rfl rfl 5 (by decide) rfl (hts _ q4_205) (kn_dec tX9_walksBy 14 rfl) rfl ?_
      refine lv_aload_n hx hb (kn_dec tX9_walksBy 15 rfl) rfl (lv_at hl 0 rfl) ?_
      refine kw_getl hx hb hts inX9 hown hK I 0 rfl rfl 1 (by decide) rfl (hts _ q4_201) (kn_dec tX9_walksBy 16 rfl) rfl ?_
      refine lv_bipush (v := (7)) hx hb (kn_dec tX9_walksBy 17 rfl) (by decide) ?_
      refine kw_iald hx hb hK I 0 rfl 1 12 (List.mem_of_getElem? (i := 0) rfl) (by unfold vp_in; decide) (kn_dec tX9_walksBy 18 rfl) ?_
      obtain ⟨hs5, h⟩ := h
      refine kw_iald hx hb hK I 0 rfl 5 10 (List.mem_of_getElem? (i := 4) rfl) hs5 (kn_dec tX9_walksBy 19 rfl) ?_
      refine lv_aload_n hx hb (kn_dec tX9_walksBy 20 rfl) rfl (lv_at hl 0 rfl) ?_
      refine kw_getl hx hb hts inX9 hown hK I 0 rfl rfl 1 (by decide) rfl (hts _ q4_201) (kn_dec tX9_walksBy 21 rfl) rfl ?_
      refine lv_iconst (v := (1)) hx hb (kn_dec tX9_walksBy 22 rfl) (by decide) ?_
      refine kw_iald hx hb hK I 0 rfl 1 12 (List.mem_of_getElem? (i := 0) rfl) (by unfold vp_in; decide) (kn_dec tX9_walksBy 23 rfl) ?_
      refine lv_icmp_lt (tgt := 54) hx hb (kn_dec tX9_walksBy 24 rfl) (by decide) (fun c6 => ?_) (fun c6 => ?_)
      · have h := h.1 c6
        exact wX9_walksBy_b54 X _ _ _ _  I (lv_sub hl [0] rfl) h
      · have h := h.2 c6
        refine lv_aload_n hx hb (kn_dec tX9_walksBy 25 rfl) rfl (lv_at hl 0 rfl) ?_
        refine kw_getl hx hb hts inX9 hown hK I 0 rfl rfl 1 (by decide) rfl (hts _ q4_201) (kn_dec tX9_walksBy 26 rfl) rfl ?_
        refine lv_bipush (v := (7)) hx hb (kn_dec tX9_walksBy 27 rfl) (by decide) ?_
        refine lv_iconst (v := (-1)) hx hb (kn_dec tX9_walksBy 28 rfl) (by decide) ?_
        refine kw_iast hx hb hK I 0 rfl 1 12 (List.mem_of_getElem? (i := 0) rfl) ukModel_1 (by unfold vp_in; decide) (kn_dec tX9_walksBy 29 rfl) (fun v_m7 ev_m7 H locs I => ?_)
        have h := h v_m7 ev_m7
        have I : kn_I D tc (kn_A _ s.heap.size) s.heap [(kModel, ad_m, _)] _ _ := I
        exact wX9_walksBy_b54 X _ _ _ _  I (lv_sub hl [0] rfl) h

/-! X9_goes -/
abbrev rmX9_goes : Room := { frames := 7, cells := 0, slots := 0, locals := 163 }
def PX9_goes_L4   (post : Int32 → OV → Prop) : Nat → Int32 → Int32 → OV → Prop
  | 0, _, _, _ => False
  | n + 1, y1, y2, v_m => (((v_m.2.1 1 ((5 : Int32)).toNatClampNeg) ≤ y2 → (PX9_walksBy v_m (fun v_m2 => post y1 v_m2))) ∧ (¬ (v_m.2.1 1 ((5 : Int32)).toNatClampNeg) ≤ y2 → (vp_in y2 4 ∧ ((¬ (v_m.2.1 11 y2.toNatClampNeg) = ((-1 : Int32)) → (∀ x6 : Int32, x6 = y2 + (1 : Int32) → PX9_goes_L4 post n y1 x6 v_m)) ∧ ((v_m.2.1 11 y2.toNatClampNeg) = ((-1 : Int32)) → (PX9_looksFor v_m y2 (fun r8 v_m7 => ((r8 = ((0 : Int32)) → (∀ x11 : Int32, x11 = y2 + (1 : Int32) → PX9_goes_L4 post n y1 x11 v_m7)) ∧ (¬ r8 = ((0 : Int32)) → (∀ x12 : Int32, x12 = y1 + (1 : Int32) → (∀ x13 : Int32, x13 = y2 + (1 : Int32) → PX9_goes_L4 post n x12 x13 v_m7)))))))))))
set_option maxRecDepth 100000 in
set_option maxHeartbeats 1000000 in
theorem wX9_goes_L4   {post : Int32 → OV → Prop} {ad_m : Nat → Nat} (X : kn_X p s m args meth c cX9_goes 3 (some .int) RX9 kn_all D tc Z (kn_A w0 s.heap.size))    : ∀ n : Nat, ∀ (H : Heap) (locs : List Loc) (ls : Array Slot) (y1 : Int32) (y2 : Int32) (v_m : OV), kn_I D tc (kn_A w0 s.heap.size) s.heap [(kModel, ad_m, v_m)] H locs → lv_has ls 3 [(0, .ref (ad_m 0)), (1, .int y1), (2, .int y2)] → PX9_goes_L4 post n y1 y2 v_m → W p l e rmX9_goes s m args below meth c H locs 0 0 (kn_Qi D tc w0 (fun (u : OV) => [(kModel, ad_m, u)]) (fun (r : Int32) (u : OV) => post r u) below args s 0 0) (F0 m 4 ls []) := by
  obtain ⟨S0, hr, hlocks, hK, hZ, hA⟩ := id X
  obtain ⟨hx, hb, hml, hown, hts⟩ := id S0
  intro n
  induction n with
  | zero =>
    intro H locs ls y1 y2 v_m I hl h
    unfold PX9_goes_L4 at h
    exact h.elim
  | succ n ih =>
    intro H locs ls y1 y2 v_m I hl h
    unfold PX9_goes_L4 at h
    refine lv_iload_n hx hb (kn_dec tX9_goes 4 rfl) rfl (lv_at hl 2 rfl) ?_
    refine lv_aload_n hx hb (kn_dec tX9_goes 5 rfl) rfl (lv_at hl 0 rfl) ?_
    refine kw_getl hx hb hts inX9 hown hK I 0 rfl rfl 1 (by decide) rfl (hts _ q4_201) (kn_dec tX9_goes 6 rfl) rfl ?_
    refine lv_iconst (v := (5)) hx hb (kn_dec tX9_goes 7 rfl) (by decide) ?_
    refine kw_iald hx hb hK I 0 rfl 1 12 (List.mem_of_getElem? (i := 0) rfl) (by unfold vp_in; decide) (kn_dec tX9_goes 8 rfl) ?_
    refine lv_icmp_ge (tgt := 41) hx hb (kn_dec tX9_goes 9 rfl) (by decide) (fun c1 => ?_) (fun c1 => ?_)
    · have h := h.1 c1
      refine lv_aload_n hx hb (kn_dec tX9_goes 23 rfl) rfl (lv_at hl 0 rfl) ?_
      refine kw_callv (wc := [(kModel, ad_m, _)]) (wr := []) I hA [0] [] rfl rfl (by decide) (by decide) (kn_runV (As := []) S0 hK hZ hA I ((ctX9_walksBy h).met _) (kn_cwV 0 hts q6_207 q6_209 q0_76 q1_10 q6_210 rfl rfl (by decide +kernel) ⟨(Nat.le_of_ble_eq_true rfl), (Nat.le_of_ble_eq_true rfl)⟩) [0] rfl (by decide) 0 rfl rfl rfl rfl hl.1 rfl (Nat.le_of_ble_eq_true rfl) (kn_dec tX9_goes 24 rfl) ⟨(Nat.le_of_ble_eq_true rfl), (Nat.le_of_ble_eq_true rfl)⟩) (fun u3 H locs h I => ?_)
      have I : kn_I D tc (kn_A w0 s.heap.size) s.heap [(kModel, ad_m, _)] _ _ := I
      refine lv_iload_n hx hb (kn_dec tX9_goes 25 rfl) rfl (lv_at hl 1 rfl) ?_
      exact kw_iret hx hb hr hlocks I _ rfl h (kn_dec tX9_goes 26 rfl)
    · have h := h.2 c1
      refine lv_aload_n hx hb (kn_dec tX9_goes 10 rfl) rfl (lv_at hl 0 rfl) ?_
      refine kw_getl hx hb hts inX9 hown hK I 0 rfl rfl 11 (by decide) rfl (hts _ q4_211) (kn_dec tX9_goes 11 rfl) rfl ?_
      refine lv_iload_n hx hb (kn_dec tX9_goes 12 rfl) rfl (lv_at hl 2 rfl) ?_
      obtain ⟨hs4, h⟩ := h
      refine kw_iald hx hb hK I 0 rfl 11 4 (List.mem_of_getElem? (i := 10) rfl) hs4 (kn_dec tX9_goes 13 rfl) ?_
      refine lv_iconst (v := (-1)) hx hb (kn_dec tX9_goes 14 rfl) (by decide) ?_
      refine lv_icmp_ne (tgt := 35) hx hb (kn_dec tX9_goes 15 rfl) (by decide) (fun c5 => ?_) (fun c5 => ?_)
      · have h := h.1 c5
        refine kw_iinc (lvf := fun y => [(2, .int y), (0, .ref (ad_m 0)), (1, .int _)]) (nv := (1)) hx hb (kn_dec tX9_goes 21 rfl) hl (k := 2) rfl (by decide) (by decide) (fun _ => rfl) (fun x6 ex6 ls hl => ?_)
        have h := h x6 ex6
        refine lv_goto (tgt := 4) hx hb (kn_dec tX9_goes 22 rfl) (by decide) ?_
        exact ih _ _ _ _ _ _  I (lv_sub hl [1, 2, 0] rfl) h
      · have h := h.2 c5
        refine lv_aload_n hx hb (kn_dec tX9_goes 16 rfl) rfl (lv_at hl 0 rfl) ?_
        refine lv_iload_n hx hb (kn_dec tX9_goes 17 rfl) rfl (lv_at hl 2 rfl) ?_
        refine kw_calli (wc := [(kModel, ad_m, _)]) (wr := []) I hA [0] [] rfl rfl (by decide) (by decide) (kn_runV (As := [.int _]) S0 hK hZ hA I ((ctX9_looksFor h).met _) (kn_cwV 1 hts q6_159 q6_161 q0_67 q1_10 q6_162 rfl rfl (by decide +kernel) ⟨(Nat.le_of_ble_eq_true rfl), (Nat.le_of_ble_eq_true rfl)⟩) [0] rfl (by decide) 0 rfl rfl rfl rfl hl.1 rfl (Nat.le_of_ble_eq_true rfl) (kn_dec tX9_goes 18 rfl) ⟨(Nat.le_of_ble_eq_true rfl), (Nat.le_of_ble_eq_true rfl)⟩) (fun r8 u9 H locs h I => ?_)
        obtain ⟨hz_r8, h⟩ := h
        have I : kn_I D tc (kn_A w0 s.heap.size) s.heap [(kModel, ad_m, _)] _ _ := I
        refine lv_if_eq (tgt := 35) hx hb (kn_dec tX9_goes 19 rfl) (by decide) (fun c10 => ?_) (fun c10 => ?_)
        · have h := h.1 c10
          refine kw_iinc (lvf := fun y => [(2, .int y), (0, .ref (ad_m 0)), (1, .int _)]) (nv := (1)) hx hb (kn_dec tX9_goes 21 rfl) hl (k := 2) rfl (by decide) (by decide) (fun _ => rfl) (fun x11 ex11 ls hl => ?_)
          have h := h x11 ex11
          refine lv_goto (tgt := 4) hx hb (kn_dec tX9_goes 22 rfl) (by decide) ?_
          exact ih _ _ _ _ _ _  I (lv_sub hl [1, 2, 0] rfl) h
        · have h := h.2 c10
          refine kw_iinc (lvf := fun y => [(1, .int y), (0, .ref (ad_m 0)), (2, .int _)]) (nv := (1)) hx hb (kn_dec tX9_goes 20 rfl) hl (k := 1) rfl (by decide) (by decide) (fun _ => rfl) (fun x12 ex12 ls hl => ?_)
          have h := h x12 ex12
          refine kw_iinc (lvf := fun y => [(2, .int y), (1, .int _), (0, .ref (ad_m 0))]) (nv := (1)) hx hb (kn_dec tX9_goes 21 rfl) hl (k := 2) rfl (by decide) (by decide) (fun _ => rfl) (fun x13 ex13 ls hl => ?_)
          have h := h x13 ex13
          refine lv_goto (tgt := 4) hx hb (kn_dec tX9_goes 22 rfl) (by decide) ?_
          exact ih _ _ _ _ _ _  I (lv_sub hl [2, 1, 0] rfl) h
def PX9_goes  (v_m : OV) (post : Int32 → OV → Prop) : Prop := (∃ n1 : Nat, PX9_goes_L4 post n1 ((0 : Int32)) ((0 : Int32)) v_m)
set_option maxRecDepth 100000 in
set_option maxHeartbeats 1000000 in
theorem ctX9_goes {l : Launch} {D : va_G} {tc : Nat → ClassId} {Z : (Nat → Nat) × (Nat → Nat)}  {ad_m : Nat → Nat} {v_m : OV}    {post : Int32 → OV → Prop} (h : PX9_goes  v_m post) : CTi l D tc Z yX9_goes (Cond.code yX9_goes cX9_goes 3 (some .int) :: kn_all) rmX9_goes 0 0 [.ref (ad_m 0)] [(kModel, ad_m, v_m)] (fun (u : OV) => [(kModel, ad_m, u)]) (fun (r : Int32) (u : OV) => post r u) := by
  refine kn_ofi (cc := cX9_goes) (nL := 3) (ret := (some .int)) (lv := [(0, .ref (ad_m 0))]) (by decide) (Nat.le_of_ble_eq_true rfl) rfl (fun p e s m below meth c ls X I hl _ => ?_)
  obtain ⟨S0, hr, hlocks, hK, hZ, hA⟩ := id X
  obtain ⟨hx, hb, hml, hown, hts⟩ := id S0
  unfold PX9_goes at h
  refine lv_iconst (v := (0)) hx hb (kn_dec tX9_goes 0 rfl) (by decide) ?_
  refine lv_istore_n (lv' := [(1, .int _), (0, .ref (ad_m 0))]) hx hb (kn_dec tX9_goes 1 rfl) rfl hl (by decide) rfl (fun ls hl => ?_)
  refine lv_iconst (v := (0)) hx hb (kn_dec tX9_goes 2 rfl) (by decide) ?_
  refine lv_istore_n (lv' := [(2, .int _), (1, .int _), (0, .ref (ad_m 0))]) hx hb (kn_dec tX9_goes 3 rfl) rfl hl (by decide) rfl (fun ls hl => ?_)
  obtain ⟨n1, h⟩ := h
  exact wX9_goes_L4 X n1 _ _ _ _ _ _  I (lv_sub hl [2, 1, 0] rfl) h

/-! X9_goFor -/
abbrev rmX9_goFor : Room := { frames := 8, cells := 0, slots := 0, locals := 185 }
def PX9_goFor_L2   (post : OV → Prop) : Nat → Int32 → Int32 → OV → Prop
  | 0, _, _, _ => False
  | n + 1, y1, y2, v_m => ((y1 ≤ y2 → post v_m) ∧ (¬ y1 ≤ y2 → (PX9_goes v_m (fun r3 v_m2 => (∀ x5 : Int32, x5 = y2 + (1 : Int32) → PX9_goFor_L2 post n y1 x5 v_m2)))))
set_option maxRecDepth 100000 in
set_option maxHeartbeats 1000000 in
theorem wX9_goFor_L2   {post : OV → Prop} {ad_m : Nat → Nat} (X : kn_X p s m args meth c cX9_goFor 3 none RX9 kn_all D tc Z (kn_A w0 s.heap.size))    : ∀ n : Nat, ∀ (H : Heap) (locs : List Loc) (ls : Array Slot) (y1 : Int32) (y2 : Int32) (v_m : OV), kn_I D tc (kn_A w0 s.heap.size) s.heap [(kModel, ad_m, v_m)] H locs → lv_has ls 3 [(0, .ref (ad_m 0)), (1, .int y1), (2, .int y2)] → PX9_goFor_L2 post n y1 y2 v_m → W p l e rmX9_goFor s m args below meth c H locs 0 0 (kn_Qv D tc w0 (fun (u : OV) => [(kModel, ad_m, u)]) (fun (u : OV) => post u) below args s 0 0) (F0 m 2 ls []) := by
  obtain ⟨S0, hr, hlocks, hK, hZ, hA⟩ := id X
  obtain ⟨hx, hb, hml, hown, hts⟩ := id S0
  intro n
  induction n with
  | zero =>
    intro H locs ls y1 y2 v_m I hl h
    unfold PX9_goFor_L2 at h
    exact h.elim
  | succ n ih =>
    intro H locs ls y1 y2 v_m I hl h
    unfold PX9_goFor_L2 at h
    refine lv_iload_n hx hb (kn_dec tX9_goFor 2 rfl) rfl (lv_at hl 2 rfl) ?_
    refine lv_iload_n hx hb (kn_dec tX9_goFor 3 rfl) rfl (lv_at hl 1 rfl) ?_
    refine lv_icmp_ge (tgt := 18) hx hb (kn_dec tX9_goFor 4 rfl) (by decide) (fun c1 => ?_) (fun c1 => ?_)
    · have h := h.1 c1
      exact kw_vret hx hb hr hlocks I _ rfl h (kn_dec tX9_goFor 10 rfl)
    · have h := h.2 c1
      refine lv_aload_n hx hb (kn_dec tX9_goFor 5 rfl) rfl (lv_at hl 0 rfl) ?_
      refine kw_calli (wc := [(kModel, ad_m, _)]) (wr := []) I hA [0] [] rfl rfl (by decide) (by decide) (kn_runV (As := []) S0 hK hZ hA I ((ctX9_goes h).met _) (kn_cwV 0 hts q6_155 q6_157 q0_66 q1_10 q6_158 rfl rfl (by decide +kernel) ⟨(Nat.le_of_ble_eq_true rfl), (Nat.le_of_ble_eq_true rfl)⟩) [0] rfl (by decide) 0 rfl rfl rfl rfl hl.1 rfl (Nat.le_of_ble_eq_true rfl) (kn_dec tX9_goFor 6 rfl) ⟨(Nat.le_of_ble_eq_true rfl), (Nat.le_of_ble_eq_true rfl)⟩) (fun r3 u4 H locs h I => ?_)
      have I : kn_I D tc (kn_A w0 s.heap.size) s.heap [(kModel, ad_m, _)] _ _ := I
      refine lv_pop hx hb (kn_dec tX9_goFor 7 rfl) rfl ?_
      refine kw_iinc (lvf := fun y => [(2, .int y), (0, .ref (ad_m 0)), (1, .int _)]) (nv := (1)) hx hb (kn_dec tX9_goFor 8 rfl) hl (k := 2) rfl (by decide) (by decide) (fun _ => rfl) (fun x5 ex5 ls hl => ?_)
      have h := h x5 ex5
      refine lv_goto (tgt := 2) hx hb (kn_dec tX9_goFor 9 rfl) (by decide) ?_
      exact ih _ _ _ _ _ _  I (lv_sub hl [1, 2, 0] rfl) h
def PX9_goFor  (v_m : OV) (a1 : Int32) (post : OV → Prop) : Prop := (∃ n1 : Nat, PX9_goFor_L2 post n1 a1 ((0 : Int32)) v_m)
set_option maxRecDepth 100000 in
set_option maxHeartbeats 1000000 in
theorem ctX9_goFor {l : Launch} {D : va_G} {tc : Nat → ClassId} {Z : (Nat → Nat) × (Nat → Nat)}  {ad_m : Nat → Nat} {v_m : OV} {a1 : Int32}    {post : OV → Prop} (h : PX9_goFor  v_m a1 post) : CTv l D tc Z yX9_goFor (Cond.code yX9_goFor cX9_goFor 3 none :: kn_all) rmX9_goFor 0 0 [.ref (ad_m 0), .int a1] [(kModel, ad_m, v_m)] (fun (u : OV) => [(kModel, ad_m, u)]) (fun (u : OV) => post u) := by
  refine kn_ofv (cc := cX9_goFor) (nL := 3) (ret := none) (lv := [(0, .ref (ad_m 0)), (1, .int a1)]) (by decide) (Nat.le_of_ble_eq_true rfl) rfl (fun p e s m below meth c ls X I hl _ => ?_)
  obtain ⟨S0, hr, hlocks, hK, hZ, hA⟩ := id X
  obtain ⟨hx, hb, hml, hown, hts⟩ := id S0
  unfold PX9_goFor at h
  refine lv_iconst (v := (0)) hx hb (kn_dec tX9_goFor 0 rfl) (by decide) ?_
  refine lv_istore_n (lv' := [(2, .int _), (0, .ref (ad_m 0)), (1, .int _)]) hx hb (kn_dec tX9_goFor 1 rfl) rfl hl (by decide) rfl (fun ls hl => ?_)
  obtain ⟨n1, h⟩ := h
  exact wX9_goFor_L2 X n1 _ _ _ _ _ _  I (lv_sub hl [1, 2, 0] rfl) h

/-! X9_moves -/
abbrev rmX9_moves : Room := { frames := 0, cells := 0, slots := 0, locals := 0 }
def PX9_moves_b20   (post : Int32 → OV → Prop) (t0 : Int32) (v_m : OV) : Prop := (vp_in (v_m.1 58) 700 ∧ (∀ v_m2 : OV, v_m2 = sa v_m 55 (upd (v_m.2.1 55) (v_m.1 58).toNatClampNeg t0) → (∀ x3 : Int32, x3 = ((v_m2.1 58) + ((1 : Int32))) → (∀ v_m4 : OV, v_m4 = si v_m2 58 x3 → post t0 v_m4))))
set_option maxRecDepth 100000 in
set_option maxHeartbeats 1000000 in
theorem wX9_moves_b20   {post : Int32 → OV → Prop} {ad_m : Nat → Nat} (X : kn_X p s m args meth c cX9_moves 3 (some .int) RX9 kn_all D tc Z (kn_A w0 s.heap.size))    : ∀ (H : Heap) (locs : List Loc) (ls : Array Slot) (t0 : Int32) (v_m : OV), kn_I D tc (kn_A w0 s.heap.size) s.heap [(kModel, ad_m, v_m)] H locs → lv_has ls 3 [(0, .ref (ad_m 0))] → PX9_moves_b20 post t0 v_m → W p l e rmX9_moves s m args below meth c H locs 0 0 (kn_Qi D tc w0 (fun (u : OV) => [(kModel, ad_m, u)]) (fun (r : Int32) (u : OV) => post r u) below args s 0 0) (F0 m 20 ls [.int t0]) := by
  obtain ⟨S0, hr, hlocks, hK, hZ, hA⟩ := id X
  obtain ⟨hx, hb, hml, hown, hts⟩ := id S0
  intro H locs ls t0 v_m I hl h
  unfold PX9_moves_b20 at h
  refine lv_istore_n (lv' := [(2, .int _), (0, .ref (ad_m 0))]) hx hb (kn_dec tX9_moves 10 rfl) rfl hl (by decide) rfl (fun ls hl => ?_)
  refine lv_aload_n hx hb (kn_dec tX9_moves 11 rfl) rfl (lv_at hl 1 rfl) ?_
  refine kw_getl hx hb hts inX9 hown hK I 0 rfl rfl 55 (by decide) rfl (hts _ q5_15) (kn_dec tX9_moves 12 rfl) rfl ?_
  refine lv_aload_n hx hb (kn_dec tX9_moves 13 rfl) rfl (lv_at hl 1 rfl) ?_
  refine kw_geti hx hb hts inX9 hown hK I 0 rfl rfl 58 (by decide) rfl (hts _ q5_18) (kn_dec tX9_moves 14 rfl) ?_
  refine lv_iload_n hx hb (kn_dec tX9_moves 15 rfl) rfl (lv_at hl 0 rfl) ?_
  obtain ⟨hs1, h⟩ := h
  refine kw_iast hx hb hK I 0 rfl 55 700 (List.mem_of_getElem? (i := 41) rfl) ukModel_55 hs1 (kn_dec tX9_moves 16 rfl) (fun v_m2 ev_m2 H locs I => ?_)
  have h := h v_m2 ev_m2
  have I : kn_I D tc (kn_A w0 s.heap.size) s.heap [(kModel, ad_m, _)] _ _ := I
  refine lv_aload_n hx hb (kn_dec tX9_moves 17 rfl) rfl (lv_at hl 1 rfl) ?_
  refine lv_dup hx hb (kn_dec tX9_moves 18 rfl) rfl ?_
  refine kw_geti hx hb hts inX9 hown hK I 0 rfl rfl 58 (by decide) rfl (hts _ q5_18) (kn_dec tX9_moves 19 rfl) ?_
  refine lv_iconst (v := (1)) hx hb (kn_dec tX9_moves 20 rfl) (by decide) ?_
  refine lv_iadd hx hb (kn_dec tX9_moves 21 rfl) ?_
  refine lv_topi (fun x3 ex3 => ?_)
  have h := h x3 ex3
  refine kw_puti hx hb hts inX9 tyX9 tyX9_ok nmX9 hown hK I 0 rfl rfl 58 (by decide) rfl (hts _ q5_18) rfl rfl rfl (kn_dec tX9_moves 22 rfl) (fun v_m4 ev_m4 H locs I => ?_)
  have h := h v_m4 ev_m4
  have I : kn_I D tc (kn_A w0 s.heap.size) s.heap [(kModel, ad_m, _)] _ _ := I
  refine lv_iload_n hx hb (kn_dec tX9_moves 23 rfl) rfl (lv_at hl 0 rfl) ?_
  exact kw_iret hx hb hr hlocks I _ rfl h (kn_dec tX9_moves 24 rfl)
def PX9_moves  (v_m : OV) (a1 : Int32) (post : Int32 → OV → Prop) : Prop := (((v_m.1 59) = ((0 : Int32)) → PX9_moves_b20 post a1 v_m) ∧ (¬ (v_m.1 59) = ((0 : Int32)) → (vp_in (v_m.1 58) 700 ∧ PX9_moves_b20 post (v_m.2.1 55 (v_m.1 58).toNatClampNeg) v_m)))
set_option maxRecDepth 100000 in
set_option maxHeartbeats 1000000 in
theorem ctX9_moves {l : Launch} {D : va_G} {tc : Nat → ClassId} {Z : (Nat → Nat) × (Nat → Nat)}  {ad_m : Nat → Nat} {v_m : OV} {a1 : Int32}    {post : Int32 → OV → Prop} (h : PX9_moves  v_m a1 post) : CTi l D tc Z yX9_moves (Cond.code yX9_moves cX9_moves 3 (some .int) :: kn_all) rmX9_moves 0 0 [.ref (ad_m 0), .int a1] [(kModel, ad_m, v_m)] (fun (u : OV) => [(kModel, ad_m, u)]) (fun (r : Int32) (u : OV) => post r u) := by
  refine kn_ofi (cc := cX9_moves) (nL := 3) (ret := (some .int)) (lv := [(0, .ref (ad_m 0)), (1, .int a1)]) (by decide) (Nat.le_of_ble_eq_true rfl) rfl (fun p e s m below meth c ls X I hl _ => ?_)
  obtain ⟨S0, hr, hlocks, hK, hZ, hA⟩ := id X
  obtain ⟨hx, hb, hml, hown, hts⟩ := id S0
  unfold PX9_moves at h
  refine lv_aload_n hx hb (kn_dec tX9_moves 0 rfl) rfl (lv_at hl 0 rfl) ?_
  refine kw_geti hx hb hts inX9 hown hK I 0 rfl rfl 59 (by decide) rfl (hts _ q5_19) (kn_dec tX9_moves 1 rfl) ?_
  refine lv_if_eq (tgt := 19) hx hb (kn_dec tX9_moves 2 rfl) (by decide) (fun c1 => ?_) (fun c1 => ?_)
  · have h := h.1 c1
    refine lv_iload_n hx hb (kn_dec tX9_moves 9 rfl) rfl (lv_at hl 1 rfl) ?_
    exact wX9_moves_b20 X _ _ _ _ _  I (lv_sub hl [0] rfl) h
  · have h := h.2 c1
    refine lv_aload_n hx hb (kn_dec tX9_moves 3 rfl) rfl (lv_at hl 0 rfl) ?_
    refine kw_getl hx hb hts inX9 hown hK I 0 rfl rfl 55 (by decide) rfl (hts _ q5_15) (kn_dec tX9_moves 4 rfl) rfl ?_
    refine lv_aload_n hx hb (kn_dec tX9_moves 5 rfl) rfl (lv_at hl 0 rfl) ?_
    refine kw_geti hx hb hts inX9 hown hK I 0 rfl rfl 58 (by decide) rfl (hts _ q5_18) (kn_dec tX9_moves 6 rfl) ?_
    obtain ⟨hs2, h⟩ := h
    refine kw_iald hx hb hK I 0 rfl 55 700 (List.mem_of_getElem? (i := 41) rfl) hs2 (kn_dec tX9_moves 7 rfl) ?_
    refine lv_goto (tgt := 20) hx hb (kn_dec tX9_moves 8 rfl) (by decide) ?_
    exact wX9_moves_b20 X _ _ _ _ _  I (lv_sub hl [0] rfl) h

/-! X9_movesRow -/
abbrev rmX9_movesRow : Room := { frames := 1, cells := 0, slots := 0, locals := 22 }
def PX9_movesRow_L2 (gk1 : Nat) (gn1 : Nat)  (post : OV → Prop) : Nat → Int32 → OV → Prop
  | 0, _, _ => False
  | n + 1, y2, v_m => (((Int32.ofNat gn1) ≤ y2 → post v_m) ∧ (¬ (Int32.ofNat gn1) ≤ y2 → (vp_in y2 gn1 ∧ (PX9_moves v_m (v_m.2.1 gk1 y2.toNatClampNeg) (fun r4 v_m3 => (vp_in y2 gn1 ∧ (∀ v_m7 : OV, v_m7 = sa v_m3 gk1 (upd (v_m3.2.1 gk1) y2.toNatClampNeg r4) → (∀ x8 : Int32, x8 = y2 + (1 : Int32) → PX9_movesRow_L2 gk1 gn1 post n x8 v_m7))))))))
set_option maxRecDepth 100000 in
set_option maxHeartbeats 1000000 in
theorem wX9_movesRow_L2 {gk1 : Nat} {gn1 : Nat}  {post : OV → Prop} {ad_m : Nat → Nat} (X : kn_X p s m args meth c cX9_movesRow 3 none RX9 kn_all D tc Z (kn_A w0 s.heap.size)) (hm_gk1 : (gk1, 0, gn1) ∈ kModel.2) (hu_gk1 : ∀ b ∈ kModel.2, b.1 = gk1 → b = (gk1, 0, gn1))   : ∀ n : Nat, ∀ (H : Heap) (locs : List Loc) (ls : Array Slot) (y2 : Int32) (v_m : OV), kn_I D tc (kn_A w0 s.heap.size) s.heap [(kModel, ad_m, v_m)] H locs → lv_has ls 3 [(0, .ref (ad_m 0)), (1, .ref (ad_m (gk1 + 1))), (2, .int y2)] → PX9_movesRow_L2 gk1 gn1 post n y2 v_m → W p l e rmX9_movesRow s m args below meth c H locs 0 0 (kn_Qv D tc w0 (fun (u : OV) => [(kModel, ad_m, u)]) (fun (u : OV) => post u) below args s 0 0) (F0 m 2 ls []) := by
  obtain ⟨S0, hr, hlocks, hK, hZ, hA⟩ := id X
  obtain ⟨hx, hb, hml, hown, hts⟩ := id S0
  intro n
  induction n with
  | zero =>
    intro H locs ls y2 v_m I hl h
    unfold PX9_movesRow_L2 at h
    exact h.elim
  | succ n ih =>
    intro H locs ls y2 v_m I hl h
    unfold PX9_movesRow_L2 at h
    refine lv_iload_n hx hb (kn_dec tX9_movesRow 2 rfl) rfl (lv_at hl 2 rfl) ?_
    refine lv_aload_n hx hb (kn_dec tX9_movesRow 3 rfl) rfl (lv_at hl 1 rfl) ?_
    refine kw_alen hx hb hK I 0 rfl gk1 0 gn1 hm_gk1 rfl rfl (kn_dec tX9_movesRow 4 rfl) ?_
    refine lv_icmp_ge (tgt := 24) hx hb (kn_dec tX9_movesRow 5 rfl) (by decide) (fun c1 => ?_) (fun c1 => ?_)
    · have h := h.1 c1
      exact kw_vret hx hb hr hlocks I _ rfl h (kn_dec tX9_movesRow 16 rfl)
    · have h := h.2 c1
      refine lv_aload_n hx hb (kn_dec tX9_movesRow 6 rfl) rfl (lv_at hl 1 rfl) ?_
      refine lv_iload_n hx hb (kn_dec tX9_movesRow 7 rfl) rfl (lv_at hl 2 rfl) ?_
      refine lv_aload_n hx hb (kn_dec tX9_movesRow 8 rfl) rfl (lv_at hl 0 rfl) ?_
      refine lv_aload_n hx hb (kn_dec tX9_movesRow 9 rfl) rfl (lv_at hl 1 rfl) ?_
      refine lv_iload_n hx hb (kn_dec tX9_movesRow 10 rfl) rfl (lv_at hl 2 rfl) ?_
      obtain ⟨hs2, h⟩ := h
      refine kw_iald hx hb hK I 0 rfl gk1 gn1 hm_gk1 hs2 (kn_dec tX9_movesRow 11 rfl) ?_
      refine kw_calli (wc := [(kModel, ad_m, _)]) (wr := []) I hA [0] [] rfl rfl (by decide) (by decide) (kn_runV (As := [.int _]) S0 hK hZ hA I ((ctX9_moves h).met _) (kn_cwV 1 hts q6_135 q6_137 q0_62 q1_10 q6_138 rfl rfl (by decide +kernel) ⟨(Nat.le_of_ble_eq_true rfl), (Nat.le_of_ble_eq_true rfl)⟩) [0] rfl (by decide) 0 rfl rfl rfl rfl hl.1 rfl (Nat.le_of_ble_eq_true rfl) (kn_dec tX9_movesRow 12 rfl) ⟨(Nat.le_of_ble_eq_true rfl), (Nat.le_of_ble_eq_true rfl)⟩) (fun r4 u5 H locs h I => ?_)
      have I : kn_I D tc (kn_A w0 s.heap.size) s.heap [(kModel, ad_m, _)] _ _ := I
      obtain ⟨hs6, h⟩ := h
      refine kw_iast hx hb hK I 0 rfl gk1 gn1 hm_gk1 hu_gk1 hs6 (kn_dec tX9_movesRow 13 rfl) (fun v_m7 ev_m7 H locs I => ?_)
      have h := h v_m7 ev_m7
      have I : kn_I D tc (kn_A w0 s.heap.size) s.heap [(kModel, ad_m, _)] _ _ := I
      refine kw_iinc (lvf := fun y => [(2, .int y), (0, .ref (ad_m 0)), (1, .ref (ad_m (gk1 + 1)))]) (nv := (1)) hx hb (kn_dec tX9_movesRow 14 rfl) hl (k := 2) rfl (by decide) (by decide) (fun _ => rfl) (fun x8 ex8 ls hl => ?_)
      have h := h x8 ex8
      refine lv_goto (tgt := 2) hx hb (kn_dec tX9_movesRow 15 rfl) (by decide) ?_
      exact ih _ _ _ _ _  I (lv_sub hl [1, 2, 0] rfl) h
def PX9_movesRow  (v_m : OV) (gk1 : Nat) (gn1 : Nat) (post : OV → Prop) : Prop := (∃ n1 : Nat, PX9_movesRow_L2 gk1 gn1 post n1 ((0 : Int32)) v_m)
set_option maxRecDepth 100000 in
set_option maxHeartbeats 1000000 in
theorem ctX9_movesRow {l : Launch} {D : va_G} {tc : Nat → ClassId} {Z : (Nat → Nat) × (Nat → Nat)}  {ad_m : Nat → Nat} {v_m : OV} {gk1 : Nat} {gn1 : Nat} (hm_gk1 : (gk1, 0, gn1) ∈ kModel.2) (hu_gk1 : ∀ b ∈ kModel.2, b.1 = gk1 → b = (gk1, 0, gn1))   {post : OV → Prop} (h : PX9_movesRow  v_m gk1 gn1 post) : CTv l D tc Z yX9_movesRow (Cond.code yX9_movesRow cX9_movesRow 3 none :: kn_all) rmX9_movesRow 0 0 [.ref (ad_m 0), .ref (ad_m (gk1 + 1))] [(kModel, ad_m, v_m)] (fun (u : OV) => [(kModel, ad_m, u)]) (fun (u : OV) => post u) := by
  refine kn_ofv (cc := cX9_movesRow) (nL := 3) (ret := none) (lv := [(0, .ref (ad_m 0)), (1, .ref (ad_m (gk1 + 1)))]) (by decide) (Nat.le_of_ble_eq_true rfl) rfl (fun p e s m below meth c ls X I hl _ => ?_)
  obtain ⟨S0, hr, hlocks, hK, hZ, hA⟩ := id X
  obtain ⟨hx, hb, hml, hown, hts⟩ := id S0
  unfold PX9_movesRow at h
  refine lv_iconst (v := (0)) hx hb (kn_dec tX9_movesRow 0 rfl) (by decide) ?_
  refine lv_istore_n (lv' := [(2, .int _), (0, .ref (ad_m 0)), (1, .ref (ad_m (gk1 + 1)))]) hx hb (kn_dec tX9_movesRow 1 rfl) rfl hl (by decide) rfl (fun ls hl => ?_)
  obtain ⟨n1, h⟩ := h
  exact wX9_movesRow_L2 X hm_gk1 hu_gk1 n1 _ _ _ _ _  I (lv_sub hl [1, 2, 0] rfl) h

/-! X9_movesAll -/
abbrev rmX9_movesAll : Room := { frames := 2, cells := 0, slots := 0, locals := 44 }
def PX9_movesAll  (v_m : OV) (a1 : Int32) (a2 : Int32) (post : OV → Prop) : Prop := (∀ x1 : Int32, x1 = (((35 : Int32)) * a1) → (∀ v_m2 : OV, v_m2 = si v_m 58 x1 → (∀ v_m3 : OV, v_m3 = si v_m2 59 a2 → (PX9_moves v_m3 (v_m3.2.1 1 ((0 : Int32)).toNatClampNeg) (fun r5 v_m4 => (∀ v_m7 : OV, v_m7 = sa v_m4 1 (upd (v_m4.2.1 1) ((0 : Int32)).toNatClampNeg r5) → (PX9_moves v_m7 (v_m7.2.1 1 ((7 : Int32)).toNatClampNeg) (fun r9 v_m8 => (∀ v_m11 : OV, v_m11 = sa v_m8 1 (upd (v_m8.2.1 1) ((7 : Int32)).toNatClampNeg r9) → (PX9_moves v_m11 (v_m11.2.1 1 ((8 : Int32)).toNatClampNeg) (fun r13 v_m12 => (∀ v_m15 : OV, v_m15 = sa v_m12 1 (upd (v_m12.2.1 1) ((8 : Int32)).toNatClampNeg r13) → (PX9_movesRow v_m15 5 10 (fun v_m16 => (PX9_movesRow v_m16 6 6 (fun v_m18 => (PX9_movesRow v_m18 9 4 (fun v_m20 => (PX9_movesRow v_m20 11 4 (fun v_m22 => (PX9_movesRow v_m22 12 4 (fun v_m24 => (PX9_movesRow v_m24 13 4 (fun v_m26 => post v_m26))))))))))))))))))))))))
set_option maxRecDepth 100000 in
set_option maxHeartbeats 1000000 in
theorem ctX9_movesAll {l : Launch} {D : va_G} {tc : Nat → ClassId} {Z : (Nat → Nat) × (Nat → Nat)}  {ad_m : Nat → Nat} {v_m : OV} {a1 : Int32} {a2 : Int32}   (hz_a2 : a2 = 0 ∨ a2 = 1) {post : OV → Prop} (h : PX9_movesAll  v_m a1 a2 post) : CTv l D tc Z yX9_movesAll (Cond.code yX9_movesAll cX9_movesAll 3 none :: kn_all) rmX9_movesAll 0 0 [.ref (ad_m 0), .int a1, .int a2] [(kModel, ad_m, v_m)] (fun (u : OV) => [(kModel, ad_m, u)]) (fun (u : OV) => post u) := by
  refine kn_ofv (cc := cX9_movesAll) (nL := 3) (ret := none) (lv := [(0, .ref (ad_m 0)), (1, .int a1), (2, .int a2)]) (by decide) (Nat.le_of_ble_eq_true rfl) rfl (fun p e s m below meth c ls X I hl _ => ?_)
  obtain ⟨S0, hr, hlocks, hK, hZ, hA⟩ := id X
  obtain ⟨hx, hb, hml, hown, hts⟩ := id S0
  unfold PX9_movesAll at h
  refine lv_aload_n hx hb (kn_dec tX9_movesAll 0 rfl) rfl (lv_at hl 0 rfl) ?_
  refine lv_bipush (v := (35)) hx hb (kn_dec tX9_movesAll 1 rfl) (by decide) ?_
  refine lv_iload_n hx hb (kn_dec tX9_movesAll 2 rfl) rfl (lv_at hl 1 rfl) ?_
  refine lv_imul hx hb (kn_dec tX9_movesAll 3 rfl) ?_
  refine lv_topi (fun x1 ex1 => ?_)
  have h := h x1 ex1
  refine kw_puti hx hb hts inX9 tyX9 tyX9_ok nmX9 hown hK I 0 rfl rfl 58 (by decide) rfl (hts _ q5_18) rfl rfl rfl (kn_dec tX9_movesAll 4 rfl) (fun v_m2 ev_m2 H locs I => ?_)
  have h := h v_m2 ev_m2
  have I : kn_I D tc (kn_A _ s.heap.size) s.heap [(kModel, ad_m, _)] _ _ := I
  refine lv_aload_n hx hb (kn_dec tX9_movesAll 5 rfl) rfl (lv_at hl 0 rfl) ?_
  refine lv_iload_n hx hb (kn_dec tX9_movesAll 6 rfl) rfl (lv_at hl 2 rfl) ?_
  refine kw_puti hx hb hts inX9 tyX9 tyX9_ok nmX9 hown hK I 0 rfl rfl 59 (by decide) rfl (hts _ q5_19) rfl (kn_nz hz_a2) (kn_fz hz_a2) (kn_dec tX9_movesAll 7 rfl) (fun v_m3 ev_m3 H locs I => ?_)
  have h := h v_m3 ev_m3
  have I : kn_I D tc (kn_A _ s.heap.size) s.heap [(kModel, ad_m, _)] _ _ := I
  refine lv_aload_n hx hb (kn_dec tX9_movesAll 8 rfl) rfl (lv_at hl 0 rfl) ?_
  refine kw_getl hx hb hts inX9 hown hK I 0 rfl rfl 1 (by decide) rfl (hts _ q4_201) (kn_dec tX9_movesAll 9 rfl) rfl ?_
  refine lv_iconst (v := (0)) hx hb (kn_dec tX9_movesAll 10 rfl) (by decide) ?_
  refine lv_aload_n hx hb (kn_dec tX9_movesAll 11 rfl) rfl (lv_at hl 0 rfl) ?_
  refine lv_aload_n hx hb (kn_dec tX9_movesAll 12 rfl) rfl (lv_at hl 0 rfl) ?_
  refine kw_getl hx hb hts inX9 hown hK I 0 rfl rfl 1 (by decide) rfl (hts _ q4_201) (kn_dec tX9_movesAll 13 rfl) rfl ?_
  refine lv_iconst (v := (0)) hx hb (kn_dec tX9_movesAll 14 rfl) (by decide) ?_
  refine kw_iald hx hb hK I 0 rfl 1 12 (List.mem_of_getElem? (i := 0) rfl) (by unfold vp_in; decide) (kn_dec tX9_movesAll 15 rfl) ?_
  refine kw_calli (wc := [(kModel, ad_m, _)]) (wr := []) I hA [0] [] rfl rfl (by decide) (by decide) (kn_runV (As := [.int _]) S0 hK hZ hA I ((ctX9_moves h).met _) (kn_cwV 1 hts q6_135 q6_137 q0_62 q1_10 q6_138 rfl rfl (by decide +kernel) ⟨(Nat.le_of_ble_eq_true rfl), (Nat.le_of_ble_eq_true rfl)⟩) [0] rfl (by decide) 0 rfl rfl rfl rfl hl.1 rfl (Nat.le_of_ble_eq_true rfl) (kn_dec tX9_movesAll 16 rfl) ⟨(Nat.le_of_ble_eq_true rfl), (Nat.le_of_ble_eq_true rfl)⟩) (fun r5 u6 H locs h I => ?_)
  have I : kn_I D tc (kn_A _ s.heap.size) s.heap [(kModel, ad_m, _)] _ _ := I
  refine kw_iast hx hb hK I 0 rfl 1 12 (List.mem_of_getElem? (i := 0) rfl) ukModel_1 (by unfold vp_in; decide) (kn_dec tX9_movesAll 17 rfl) (fun v_m7 ev_m7 H locs I => ?_)
  have h := h v_m7 ev_m7
  have I : kn_I D tc (kn_A _ s.heap.size) s.heap [(kModel, ad_m, _)] _ _ := I
  refine lv_aload_n hx hb (kn_dec tX9_movesAll 18 rfl) rfl (lv_at hl 0 rfl) ?_
  refine kw_getl hx hb hts inX9 hown hK I 0 rfl rfl 1 (by decide) rfl (hts _ q4_201) (kn_dec tX9_movesAll 19 rfl) rfl ?_
  refine lv_bipush (v := (7)) hx hb (kn_dec tX9_movesAll 20 rfl) (by decide) ?_
  refine lv_aload_n hx hb (kn_dec tX9_movesAll 21 rfl) rfl (lv_at hl 0 rfl) ?_
  refine lv_aload_n hx hb (kn_dec tX9_movesAll 22 rfl) rfl (lv_at hl 0 rfl) ?_
  refine kw_getl hx hb hts inX9 hown hK I 0 rfl rfl 1 (by decide) rfl (hts _ q4_201) (kn_dec tX9_movesAll 23 rfl) rfl ?_
  refine lv_bipush (v := (7)) hx hb (kn_dec tX9_movesAll 24 rfl) (by decide) ?_
  refine kw_iald hx hb hK I 0 rfl 1 12 (List.mem_of_getElem? (i := 0) rfl) (by unfold vp_in; decide) (kn_dec tX9_movesAll 25 rfl) ?_
  refine kw_calli (wc := [(kModel, ad_m, _)]) (wr := []) I hA [0] [] rfl rfl (by decide) (by decide) (kn_runV (As := [.int _]) S0 hK hZ hA I ((ctX9_moves h).met _) (kn_cwV 1 hts q6_135 q6_137 q0_62 q1_10 q6_138 rfl rfl (by decide +kernel) ⟨(Nat.le_of_ble_eq_true rfl), (Nat.le_of_ble_eq_true rfl)⟩) [0] rfl (by decide) 0 rfl rfl rfl rfl hl.1 rfl (Nat.le_of_ble_eq_true rfl) (kn_dec tX9_movesAll 26 rfl) ⟨(Nat.le_of_ble_eq_true rfl), (Nat.le_of_ble_eq_true rfl)⟩) (fun r9 u10 H locs h I => ?_)
  have I : kn_I D tc (kn_A _ s.heap.size) s.heap [(kModel, ad_m, _)] _ _ := I
  refine kw_iast hx hb hK I 0 rfl 1 12 (List.mem_of_getElem? (i := 0) rfl) ukModel_1 (by unfold vp_in; decide) (kn_dec tX9_movesAll 27 rfl) (fun v_m11 ev_m11 H locs I => ?_)
  have h := h v_m11 ev_m11
  have I : kn_I D tc (kn_A _ s.heap.size) s.heap [(kModel, ad_m, _)] _ _ := I
  refine lv_aload_n hx hb (kn_dec tX9_movesAll 28 rfl) rfl (lv_at hl 0 rfl) ?_
  refine kw_getl hx hb hts inX9 hown hK I 0 rfl rfl 1 (by decide) rfl (hts _ q4_201) (kn_dec tX9_movesAll 29 rfl) rfl ?_
  refine lv_bipush (v := (8)) hx hb (kn_dec tX9_movesAll 30 rfl) (by decide) ?_
  refine lv_aload_n hx hb (kn_dec tX9_movesAll 31 rfl) rfl (lv_at hl 0 rfl) ?_
  refine lv_aload_n hx hb (kn_dec tX9_movesAll 32 rfl) rfl (lv_at hl 0 rfl) ?_
  refine kw_getl hx hb hts inX9 hown hK I 0 rfl rfl 1 (by decide) rfl (hts _ q4_201) (kn_dec tX9_movesAll 33 rfl) rfl ?_
  refine lv_bipush (v := (8)) hx hb (kn_dec tX9_movesAll 34 rfl) (by decide) ?_
  refine kw_iald hx hb hK I 0 rfl 1 12 (List.mem_of_getElem? (i := 0) rfl) (by unfold vp_in; decide) (kn_dec tX9_movesAll 35 rfl) ?_
  refine kw_calli (wc := [(kModel, ad_m, _)]) (wr := []) I hA [0] [] rfl rfl (by decide) (by decide) (kn_runV (As := [.int _]) S0 hK hZ hA I ((ctX9_moves h).met _) (kn_cwV 1 hts q6_135 q6_137 q0_62 q1_10 q6_138 rfl rfl (by decide +kernel) ⟨(Nat.le_of_ble_eq_true rfl), (Nat.le_of_ble_eq_true rfl)⟩) [0] rfl (by decide) 0 rfl rfl rfl rfl hl.1 rfl (Nat.le_of_ble_eq_true rfl) (kn_dec tX9_movesAll 36 rfl) ⟨(Nat.le_of_ble_eq_true rfl), (Nat.le_of_ble_eq_true rfl)⟩) (fun r13 u14 H locs h I => ?_)
  have I : kn_I D tc (kn_A _ s.heap.size) s.heap [(kModel, ad_m, _)] _ _ := I
  refine kw_iast hx hb hK I 0 rfl 1 12 (List.mem_of_getElem? (i := 0) rfl) ukModel_1 (by unfold vp_in; decide) (kn_dec tX9_movesAll 37 rfl) (fun v_m15 ev_m15 H locs I => ?_)
  have h := h v_m15 ev_m15
  have I : kn_I D tc (kn_A _ s.heap.size) s.heap [(kModel, ad_m, _)] _ _ := I
  refine lv_aload_n hx hb (kn_dec tX9_movesAll 38 rfl) rfl (lv_at hl 0 rfl) ?_
  refine lv_aload_n hx hb (kn_dec tX9_movesAll 39 rfl) rfl (lv_at hl 0 rfl) ?_
  refine kw_getl hx hb hts inX9 hown hK I 0 rfl rfl 5 (by decide) rfl (hts _ q4_205) (kn_dec tX9_movesAll 40 rfl) rfl ?_
  refine kw_callv (wc := [(kModel, ad_m, _)]) (wr := []) I hA [0] [] rfl rfl (by decide) (by decide) (kn_runV (As := [.ref (ad_m (5 + 1))]) S0 hK hZ hA I ((ctX9_movesRow (List.mem_of_getElem? (i := 4) rfl) ukModel_5 h).met _) (kn_cwV 1 hts q6_139 q6_141 q0_63 q1_10 q6_142 rfl rfl (by decide +kernel) ⟨(Nat.le_of_ble_eq_true rfl), (Nat.le_of_ble_eq_true rfl)⟩) [0] rfl (by decide) 0 rfl rfl rfl rfl hl.1 rfl (Nat.le_of_ble_eq_true rfl) (kn_dec tX9_movesAll 41 rfl) ⟨(Nat.le_of_ble_eq_true rfl), (Nat.le_of_ble_eq_true rfl)⟩) (fun u17 H locs h I => ?_)
  have I : kn_I D tc (kn_A _ s.heap.size) s.heap [(kModel, ad_m, _)] _ _ := I
  refine lv_aload_n hx hb (kn_dec tX9_movesAll 42 rfl) rfl (lv_at hl 0 rfl) ?_
  refine lv_aload_n hx hb (kn_dec tX9_movesAll 43 rfl) rfl (lv_at hl 0 rfl) ?_
  refine kw_getl hx hb hts inX9 hown hK I 0 rfl rfl 6 (by decide) rfl (hts _ q4_206) (kn_dec tX9_movesAll 44 rfl) rfl ?_
  refine kw_callv (wc := [(kModel, ad_m, _)]) (wr := []) I hA [0] [] rfl rfl (by decide) (by decide) (kn_runV (As := [.ref (ad_m (6 + 1))]) S0 hK hZ hA I ((ctX9_movesRow (List.mem_of_getElem? (i := 5) rfl) ukModel_6 h).met _) (kn_cwV 1 hts q6_139 q6_141 q0_63 q1_10 q6_142 rfl rfl (by decide +kernel) ⟨(Nat.le_of_ble_eq_true rfl), (Nat.le_of_ble_eq_true rfl)⟩) [0] rfl (by decide) 0 rfl rfl rfl rfl hl.1 rfl (Nat.le_of_ble_eq_true rfl) (kn_dec tX9_movesAll 45 rfl) ⟨(Nat.le_of_ble_eq_true rfl), (Nat.le_of_ble_eq_true rfl)⟩) (fun u19 H locs h I => ?_)
  have I : kn_I D tc (kn_A _ s.heap.size) s.heap [(kModel, ad_m, _)] _ _ := I
  refine lv_aload_n hx hb (kn_dec tX9_movesAll 46 rfl) rfl (lv_at hl 0 rfl) ?_
  refine lv_aload_n hx hb (kn_dec tX9_movesAll 47 rfl) rfl (lv_at hl 0 rfl) ?_
  refine kw_getl hx hb hts inX9 hown hK I 0 rfl rfl 9 (by decide) rfl (hts _ q4_209) (kn_dec tX9_movesAll 48 rfl) rfl ?_
  refine kw_callv (wc := [(kModel, ad_m, _)]) (wr := []) I hA [0] [] rfl rfl (by decide) (by decide) (kn_runV (As := [.ref (ad_m (9 + 1))]) S0 hK hZ hA I ((ctX9_movesRow (List.mem_of_getElem? (i := 8) rfl) ukModel_9 h).met _) (kn_cwV 1 hts q6_139 q6_141 q0_63 q1_10 q6_142 rfl rfl (by decide +kernel) ⟨(Nat.le_of_ble_eq_true rfl), (Nat.le_of_ble_eq_true rfl)⟩) [0] rfl (by decide) 0 rfl rfl rfl rfl hl.1 rfl (Nat.le_of_ble_eq_true rfl) (kn_dec tX9_movesAll 49 rfl) ⟨(Nat.le_of_ble_eq_true rfl), (Nat.le_of_ble_eq_true rfl)⟩) (fun u21 H locs h I => ?_)
  have I : kn_I D tc (kn_A _ s.heap.size) s.heap [(kModel, ad_m, _)] _ _ := I
  refine lv_aload_n hx hb (kn_dec tX9_movesAll 50 rfl) rfl (lv_at hl 0 rfl) ?_
  refine lv_aload_n hx hb (kn_dec tX9_movesAll 51 rfl) rfl (lv_at hl 0 rfl) ?_
  refine kw_getl hx hb hts inX9 hown hK I 0 rfl rfl 11 (by decide) rfl (hts _ q4_211) (kn_dec tX9_movesAll 52 rfl) rfl ?_
  refine kw_callv (wc := [(kModel, ad_m, _)]) (wr := []) I hA [0] [] rfl rfl (by decide) (by decide) (kn_runV (As := [.ref (ad_m (11 + 1))]) S0 hK hZ hA I ((ctX9_movesRow (List.mem_of_getElem? (i := 10) rfl) ukModel_11 h).met _) (kn_cwV 1 hts q6_139 q6_141 q0_63 q1_10 q6_142 rfl rfl (by decide +kernel) ⟨(Nat.le_of_ble_eq_true rfl), (Nat.le_of_ble_eq_true rfl)⟩) [0] rfl (by decide) 0 rfl rfl rfl rfl hl.1 rfl (Nat.le_of_ble_eq_true rfl) (kn_dec tX9_movesAll 53 rfl) ⟨(Nat.le_of_ble_eq_true rfl), (Nat.le_of_ble_eq_true rfl)⟩) (fun u23 H locs h I => ?_)
  have I : kn_I D tc (kn_A _ s.heap.size) s.heap [(kModel, ad_m, _)] _ _ := I
  refine lv_aload_n hx hb (kn_dec tX9_movesAll 54 rfl) rfl (lv_at hl 0 rfl) ?_
  refine lv_aload_n hx hb (kn_dec tX9_movesAll 55 rfl) rfl (lv_at hl 0 rfl) ?_
  refine kw_getl hx hb hts inX9 hown hK I 0 rfl rfl 12 (by decide) rfl (hts _ q4_212) (kn_dec tX9_movesAll 56 rfl) rfl ?_
  refine kw_callv (wc := [(kModel, ad_m, _)]) (wr := []) I hA [0] [] rfl rfl (by decide) (by decide) (kn_runV (As := [.ref (ad_m (12 + 1))]) S0 hK hZ hA I ((ctX9_movesRow (List.mem_of_getElem? (i := 11) rfl) ukModel_12 h).met _) (kn_cwV 1 hts q6_139 q6_141 q0_63 q1_10 q6_142 rfl rfl (by decide +kernel) ⟨(Nat.le_of_ble_eq_true rfl), (Nat.le_of_ble_eq_true rfl)⟩) [0] rfl (by decide) 0 rfl rfl rfl rfl hl.1 rfl (Nat.le_of_ble_eq_true rfl) (kn_dec tX9_movesAll 57 rfl) ⟨(Nat.le_of_ble_eq_true rfl), (Nat.le_of_ble_eq_true rfl)⟩) (fun u25 H locs h I => ?_)
  have I : kn_I D tc (kn_A _ s.heap.size) s.heap [(kModel, ad_m, _)] _ _ := I
  refine lv_aload_n hx hb (kn_dec tX9_movesAll 58 rfl) rfl (lv_at hl 0 rfl) ?_
  refine lv_aload_n hx hb (kn_dec tX9_movesAll 59 rfl) rfl (lv_at hl 0 rfl) ?_
  refine kw_getl hx hb hts inX9 hown hK I 0 rfl rfl 13 (by decide) rfl (hts _ q4_213) (kn_dec tX9_movesAll 60 rfl) rfl ?_
  refine kw_callv (wc := [(kModel, ad_m, _)]) (wr := []) I hA [0] [] rfl rfl (by decide) (by decide) (kn_runV (As := [.ref (ad_m (13 + 1))]) S0 hK hZ hA I ((ctX9_movesRow (List.mem_of_getElem? (i := 12) rfl) ukModel_13 h).met _) (kn_cwV 1 hts q6_139 q6_141 q0_63 q1_10 q6_142 rfl rfl (by decide +kernel) ⟨(Nat.le_of_ble_eq_true rfl), (Nat.le_of_ble_eq_true rfl)⟩) [0] rfl (by decide) 0 rfl rfl rfl rfl hl.1 rfl (Nat.le_of_ble_eq_true rfl) (kn_dec tX9_movesAll 61 rfl) ⟨(Nat.le_of_ble_eq_true rfl), (Nat.le_of_ble_eq_true rfl)⟩) (fun u27 H locs h I => ?_)
  have I : kn_I D tc (kn_A _ s.heap.size) s.heap [(kModel, ad_m, _)] _ _ := I
  exact kw_vret hx hb hr hlocks I _ rfl h (kn_dec tX9_movesAll 62 rfl)

end
