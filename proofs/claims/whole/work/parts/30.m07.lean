section
variable {p : Program} {l : Launch} {e : Env} {s : State} {m : MethodId} {args : Array Value} {below : List Frame} {meth : Method} {c : Code} {D : va_G} {tc : Nat → ClassId} {Z : (Nat → Nat) × (Nat → Nat)} {w0 : List CH}

/-! X9_years -/
abbrev rmX9_years : Room := { frames := 8, cells := 0, slots := 0, locals := 185 }
def PX9_years_b163  (K82 : Int32 → Int32 → Int32 → Int32 → Int32 → Int32 → Int32 → Int32 → Int32 → OV → Prop) (post : Int32 → OV → Prop) (t0 : Int32) (t1 : Int32) (y1 : Int32) (y2 : Int32) (y3 : Int32) (y4 : Int32) (y5 : Int32) (y8 : Int32) (y9 : Int32) (v_m : OV) : Prop := (∀ x1 : Int32, x1 = (t0 + t1) → (∀ x2 : Int32, x2 = (v_m.2.1 1 ((10 : Int32)).toNatClampNeg) → (PX9_laysBack v_m (fun v_m3 => (∀ x5 : Int32, x5 = y9 + (1 : Int32) → K82 y1 y2 y3 y4 y5 x2 x1 y8 x5 v_m3)))))
set_option maxRecDepth 100000 in
set_option maxHeartbeats 1000000 in
theorem wX9_years_b163  {K82 : Int32 → Int32 → Int32 → Int32 → Int32 → Int32 → Int32 → Int32 → Int32 → OV → Prop} {post : Int32 → OV → Prop} {ad_m : Nat → Nat} (X : kn_X p s m args meth c cX9_years 11 (some .int) RX9 kn_all D tc Z (kn_A w0 s.heap.size))   (hK82 : ∀ (H : Heap) (locs : List Loc) (ls : Array Slot) (y1 : Int32) (y2 : Int32) (y3 : Int32) (y4 : Int32) (y5 : Int32) (y6 : Int32) (y7 : Int32) (y8 : Int32) (y9 : Int32) (v_m : OV), kn_I D tc (kn_A w0 s.heap.size) s.heap [(kModel, ad_m, v_m)] H locs → lv_has ls 11 [(0, .ref (ad_m 0)), (1, .int y1), (2, .int y2), (3, .int y3), (4, .int y4), (5, .int y5), (6, .int y6), (7, .int y7), (8, .int y8), (9, .int y9)] → K82 y1 y2 y3 y4 y5 y6 y7 y8 y9 v_m → W p l e rmX9_years s m args below meth c H locs 0 0 (kn_Qi D tc w0 (fun (u : OV) => [(kModel, ad_m, u)]) (fun (r : Int32) (u : OV) => post r u) below args s 0 0) (F0 m 82 ls [])) : ∀ (H : Heap) (locs : List Loc) (ls : Array Slot) (t0 : Int32) (t1 : Int32) (y1 : Int32) (y2 : Int32) (y3 : Int32) (y4 : Int32) (y5 : Int32) (y8 : Int32) (y9 : Int32) (v_m : OV), (hz_t1 : t1 = 0 ∨ t1 = 1) → kn_I D tc (kn_A w0 s.heap.size) s.heap [(kModel, ad_m, v_m)] H locs → lv_has ls 11 [(0, .ref (ad_m 0)), (1, .int y1), (2, .int y2), (3, .int y3), (4, .int y4), (5, .int y5), (8, .int y8), (9, .int y9)] → PX9_years_b163 K82 post t0 t1 y1 y2 y3 y4 y5 y8 y9 v_m → W p l e rmX9_years s m args below meth c H locs 0 0 (kn_Qi D tc w0 (fun (u : OV) => [(kModel, ad_m, u)]) (fun (r : Int32) (u : OV) => post r u) below args s 0 0) (F0 m 163 ls [.int t1, .int t0]) := by
  obtain ⟨S0, hr, hlocks, hK, hZ, hA⟩ := id X
  obtain ⟨hx, hb, hml, hown, hts⟩ := id S0
  intro H locs ls t0 t1 y1 y2 y3 y4 y5 y8 y9 v_m hz_t1 I hl h
  unfold PX9_years_b163 at h
  refine lv_iadd hx hb (kn_dec tX9_years_t1 27 rfl) ?_
  refine lv_topi (fun x1 ex1 => ?_)
  have h := h x1 ex1
  refine lv_istore (lv' := [(7, .int _), (0, .ref (ad_m 0)), (1, .int _), (2, .int _), (3, .int _), (4, .int _), (5, .int _), (8, .int _), (9, .int _)]) hx hb (kn_dec tX9_years_t1 28 rfl) hl (by decide) rfl (fun ls hl => ?_)
  refine lv_aload_n hx hb (kn_dec tX9_years_t1 29 rfl) rfl (lv_at hl 1 rfl) ?_
  refine kw_getl hx hb hts inX9 hown hK I 0 rfl rfl 1 (by decide) rfl (hts _ q4_201) (kn_dec tX9_years_t1 30 rfl) rfl ?_
  refine lv_bipush (v := (10)) hx hb (kn_dec tX9_years_t1 31 rfl) (by decide) ?_
  refine kw_iald hx hb hK I 0 rfl 1 12 (List.mem_of_getElem? (i := 0) rfl) (by unfold vp_in; decide) (kn_dec tX9_years_t1 32 rfl) ?_
  refine lv_topi (fun x2 ex2 => ?_)
  have h := h x2 ex2
  refine lv_istore (lv' := [(6, .int _), (7, .int _), (0, .ref (ad_m 0)), (1, .int _), (2, .int _), (3, .int _), (4, .int _), (5, .int _), (8, .int _), (9, .int _)]) hx hb (kn_dec tX9_years_t1 33 rfl) hl (by decide) rfl (fun ls hl => ?_)
  refine lv_aload_n hx hb (kn_dec tX9_years_t1 34 rfl) rfl (lv_at hl 2 rfl) ?_
  refine kw_callv (wc := [(kModel, ad_m, _)]) (wr := []) I hA [0] [] rfl rfl (by decide) (by decide) (kn_runV (As := []) S0 hK hZ hA I ((ctX9_laysBack h).met _) (kn_cwV 0 hts q7_13 q7_15 q0_82 q1_10 q7_16 rfl rfl (by decide +kernel) ⟨(Nat.le_of_ble_eq_true rfl), (Nat.le_of_ble_eq_true rfl)⟩) [0] rfl (by decide) 0 rfl rfl rfl rfl hl.1 rfl (Nat.le_of_ble_eq_true rfl) (kn_dec tX9_years_t1 35 rfl) ⟨(Nat.le_of_ble_eq_true rfl), (Nat.le_of_ble_eq_true rfl)⟩) (fun u4 H locs h I => ?_)
  have I : kn_I D tc (kn_A w0 s.heap.size) s.heap [(kModel, ad_m, _)] _ _ := I
  refine kw_iinc (lvf := fun y => [(9, .int y), (6, .int _), (7, .int _), (0, .ref (ad_m 0)), (1, .int _), (2, .int _), (3, .int _), (4, .int _), (5, .int _), (8, .int _)]) (nv := (1)) hx hb (kn_dec tX9_years_t1 36 rfl) hl (k := 9) rfl (by decide) (by decide) (fun _ => rfl) (fun x5 ex5 ls hl => ?_)
  have h := h x5 ex5
  refine lv_goto (tgt := 82) hx hb (kn_dec tX9_years_t1 37 rfl) (by decide) ?_
  exact hK82 _ _ _ _ _ _ _ _ _ _ _ _ _  I (lv_sub hl [3, 4, 5, 6, 7, 8, 1, 2, 9, 0] rfl) h
def PX9_years_b122  (K82 : Int32 → Int32 → Int32 → Int32 → Int32 → Int32 → Int32 → Int32 → Int32 → OV → Prop) (K100 : Int32 → Int32 → Int32 → Int32 → Int32 → Int32 → Int32 → Int32 → Int32 → OV → Prop) (post : Int32 → OV → Prop) (t1 : Int32) (y1 : Int32) (y2 : Int32) (y3 : Int32) (y4 : Int32) (y5 : Int32) (y7 : Int32) (y8 : Int32) (y9 : Int32) (y10 : Int32) (v_m : OV) : Prop := (∀ v_m1 : OV, v_m1 = si v_m 50 t1 → (PX9_goes v_m1 (fun r3 v_m2 => (∀ x5 : Int32, x5 = (y8 + r3) → (∀ x6 : Int32, x6 = y10 + (1 : Int32) → K100 y1 y2 y3 y4 y5 y7 x5 y9 x6 v_m2)))))
set_option maxRecDepth 100000 in
set_option maxHeartbeats 1000000 in
theorem wX9_years_b122  {K82 : Int32 → Int32 → Int32 → Int32 → Int32 → Int32 → Int32 → Int32 → Int32 → OV → Prop} {K100 : Int32 → Int32 → Int32 → Int32 → Int32 → Int32 → Int32 → Int32 → Int32 → OV → Prop} {post : Int32 → OV → Prop} {ad_m : Nat → Nat} (X : kn_X p s m args meth c cX9_years 11 (some .int) RX9 kn_all D tc Z (kn_A w0 s.heap.size))   (hK82 : ∀ (H : Heap) (locs : List Loc) (ls : Array Slot) (y1 : Int32) (y2 : Int32) (y3 : Int32) (y4 : Int32) (y5 : Int32) (y6 : Int32) (y7 : Int32) (y8 : Int32) (y9 : Int32) (v_m : OV), kn_I D tc (kn_A w0 s.heap.size) s.heap [(kModel, ad_m, v_m)] H locs → lv_has ls 11 [(0, .ref (ad_m 0)), (1, .int y1), (2, .int y2), (3, .int y3), (4, .int y4), (5, .int y5), (6, .int y6), (7, .int y7), (8, .int y8), (9, .int y9)] → K82 y1 y2 y3 y4 y5 y6 y7 y8 y9 v_m → W p l e rmX9_years s m args below meth c H locs 0 0 (kn_Qi D tc w0 (fun (u : OV) => [(kModel, ad_m, u)]) (fun (r : Int32) (u : OV) => post r u) below args s 0 0) (F0 m 82 ls [])) (hK100 : ∀ (H : Heap) (locs : List Loc) (ls : Array Slot) (y1 : Int32) (y2 : Int32) (y3 : Int32) (y4 : Int32) (y5 : Int32) (y7 : Int32) (y8 : Int32) (y9 : Int32) (y10 : Int32) (v_m : OV), kn_I D tc (kn_A w0 s.heap.size) s.heap [(kModel, ad_m, v_m)] H locs → lv_has ls 11 [(0, .ref (ad_m 0)), (1, .int y1), (2, .int y2), (3, .int y3), (4, .int y4), (5, .int y5), (7, .int y7), (8, .int y8), (9, .int y9), (10, .int y10)] → K100 y1 y2 y3 y4 y5 y7 y8 y9 y10 v_m → W p l e rmX9_years s m args below meth c H locs 0 0 (kn_Qi D tc w0 (fun (u : OV) => [(kModel, ad_m, u)]) (fun (r : Int32) (u : OV) => post r u) below args s 0 0) (F0 m 100 ls [])) : ∀ (H : Heap) (locs : List Loc) (ls : Array Slot) (t1 : Int32) (y1 : Int32) (y2 : Int32) (y3 : Int32) (y4 : Int32) (y5 : Int32) (y7 : Int32) (y8 : Int32) (y9 : Int32) (y10 : Int32) (v_m : OV), (hz_t1 : t1 = 0 ∨ t1 = 1) → kn_I D tc (kn_A w0 s.heap.size) s.heap [(kModel, ad_m, v_m)] H locs → lv_has ls 11 [(0, .ref (ad_m 0)), (1, .int y1), (2, .int y2), (3, .int y3), (4, .int y4), (5, .int y5), (7, .int y7), (8, .int y8), (9, .int y9), (10, .int y10)] → PX9_years_b122 K82 K100 post t1 y1 y2 y3 y4 y5 y7 y8 y9 y10 v_m → W p l e rmX9_years s m args below meth c H locs 0 0 (kn_Qi D tc w0 (fun (u : OV) => [(kModel, ad_m, u)]) (fun (r : Int32) (u : OV) => post r u) below args s 0 0) (F0 m 122 ls [.int t1, .ref (ad_m 0)]) := by
  obtain ⟨S0, hr, hlocks, hK, hZ, hA⟩ := id X
  obtain ⟨hx, hb, hml, hown, hts⟩ := id S0
  intro H locs ls t1 y1 y2 y3 y4 y5 y7 y8 y9 y10 v_m hz_t1 I hl h
  unfold PX9_years_b122 at h
  refine kw_puti hx hb hts inX9 tyX9 tyX9_ok nmX9 hown hK I 0 rfl rfl 50 (by decide) rfl (hts _ q5_10) rfl (kn_nz hz_t1) (kn_fz hz_t1) (kn_dec tX9_years_t1 6 rfl) (fun v_m1 ev_m1 H locs I => ?_)
  have h := h v_m1 ev_m1
  have I : kn_I D tc (kn_A w0 s.heap.size) s.heap [(kModel, ad_m, _)] _ _ := I
  refine lv_iload hx hb (kn_dec tX9_years_t1 7 rfl) (lv_at hl 7 rfl) ?_
  refine lv_aload_n hx hb (kn_dec tX9_years_t1 8 rfl) rfl (lv_at hl 0 rfl) ?_
  refine kw_calli (wc := [(kModel, ad_m, _)]) (wr := []) I hA [0] [] rfl rfl (by decide) (by decide) (kn_runV (As := []) S0 hK hZ hA I ((ctX9_goes h).met _) (kn_cwV 0 hts q6_155 q6_157 q0_66 q1_10 q6_158 rfl rfl (by decide +kernel) ⟨(Nat.le_of_ble_eq_true rfl), (Nat.le_of_ble_eq_true rfl)⟩) [0] rfl (by decide) 0 rfl rfl rfl rfl hl.1 rfl (Nat.le_of_ble_eq_true rfl) (kn_dec tX9_years_t1 9 rfl) ⟨(Nat.le_of_ble_eq_true rfl), (Nat.le_of_ble_eq_true rfl)⟩) (fun r3 u4 H locs h I => ?_)
  have I : kn_I D tc (kn_A w0 s.heap.size) s.heap [(kModel, ad_m, _)] _ _ := I
  refine lv_iadd hx hb (kn_dec tX9_years_t1 10 rfl) ?_
  refine lv_topi (fun x5 ex5 => ?_)
  have h := h x5 ex5
  refine lv_istore (lv' := [(8, .int _), (0, .ref (ad_m 0)), (1, .int _), (2, .int _), (3, .int _), (4, .int _), (5, .int _), (7, .int _), (9, .int _), (10, .int _)]) hx hb (kn_dec tX9_years_t1 11 rfl) hl (by decide) rfl (fun ls hl => ?_)
  refine kw_iinc (lvf := fun y => [(10, .int y), (8, .int _), (0, .ref (ad_m 0)), (1, .int _), (2, .int _), (3, .int _), (4, .int _), (5, .int _), (7, .int _), (9, .int _)]) (nv := (1)) hx hb (kn_dec tX9_years_t1 12 rfl) hl (k := 9) rfl (by decide) (by decide) (fun _ => rfl) (fun x6 ex6 ls hl => ?_)
  have h := h x6 ex6
  refine lv_goto (tgt := 100) hx hb (kn_dec tX9_years_t1 13 rfl) (by decide) ?_
  exact hK100 _ _ _ _ _ _ _ _ _ _ _ _ _  I (lv_sub hl [2, 3, 4, 5, 6, 7, 8, 1, 9, 0] rfl) h
def PX9_years_L100  (K82 : Int32 → Int32 → Int32 → Int32 → Int32 → Int32 → Int32 → Int32 → Int32 → OV → Prop) (post : Int32 → OV → Prop) : Nat → Int32 → Int32 → Int32 → Int32 → Int32 → Int32 → Int32 → Int32 → Int32 → OV → Prop
  | 0, _, _, _, _, _, _, _, _, _, _ => False
  | n + 1, y1, y2, y3, y4, y5, y7, y8, y9, y10, v_m => ((y2 ≤ y10 → (∀ v_m2 : OV, v_m2 = si v_m 50 ((0 : Int32)) → ((¬ (v_m2.2.1 1 ((7 : Int32)).toNatClampNeg) = ((-1 : Int32)) → PX9_years_b163 K82 post y7 ((0 : Int32)) y1 y2 y3 y4 y5 y8 y9 v_m2) ∧ ((v_m2.2.1 1 ((7 : Int32)).toNatClampNeg) = ((-1 : Int32)) → PX9_years_b163 K82 post y7 ((1 : Int32)) y1 y2 y3 y4 y5 y8 y9 v_m2)))) ∧ (¬ y2 ≤ y10 → (PX9_draws v_m ((100 : Int32)) (fun r5 v_m4 => ((y3 ≤ r5 → PX9_years_b122 K82 (PX9_years_L100 K82 post n) post ((0 : Int32)) y1 y2 y3 y4 y5 y7 y8 y9 y10 v_m4) ∧ (¬ y3 ≤ r5 → PX9_years_b122 K82 (PX9_years_L100 K82 post n) post ((1 : Int32)) y1 y2 y3 y4 y5 y7 y8 y9 y10 v_m4))))))
set_option maxRecDepth 100000 in
set_option maxHeartbeats 1000000 in
theorem wX9_years_L100  {K82 : Int32 → Int32 → Int32 → Int32 → Int32 → Int32 → Int32 → Int32 → Int32 → OV → Prop} {post : Int32 → OV → Prop} {ad_m : Nat → Nat} (X : kn_X p s m args meth c cX9_years 11 (some .int) RX9 kn_all D tc Z (kn_A w0 s.heap.size))   (hK82 : ∀ (H : Heap) (locs : List Loc) (ls : Array Slot) (y1 : Int32) (y2 : Int32) (y3 : Int32) (y4 : Int32) (y5 : Int32) (y6 : Int32) (y7 : Int32) (y8 : Int32) (y9 : Int32) (v_m : OV), kn_I D tc (kn_A w0 s.heap.size) s.heap [(kModel, ad_m, v_m)] H locs → lv_has ls 11 [(0, .ref (ad_m 0)), (1, .int y1), (2, .int y2), (3, .int y3), (4, .int y4), (5, .int y5), (6, .int y6), (7, .int y7), (8, .int y8), (9, .int y9)] → K82 y1 y2 y3 y4 y5 y6 y7 y8 y9 v_m → W p l e rmX9_years s m args below meth c H locs 0 0 (kn_Qi D tc w0 (fun (u : OV) => [(kModel, ad_m, u)]) (fun (r : Int32) (u : OV) => post r u) below args s 0 0) (F0 m 82 ls [])) : ∀ n : Nat, ∀ (H : Heap) (locs : List Loc) (ls : Array Slot) (y1 : Int32) (y2 : Int32) (y3 : Int32) (y4 : Int32) (y5 : Int32) (y7 : Int32) (y8 : Int32) (y9 : Int32) (y10 : Int32) (v_m : OV), kn_I D tc (kn_A w0 s.heap.size) s.heap [(kModel, ad_m, v_m)] H locs → lv_has ls 11 [(0, .ref (ad_m 0)), (1, .int y1), (2, .int y2), (3, .int y3), (4, .int y4), (5, .int y5), (7, .int y7), (8, .int y8), (9, .int y9), (10, .int y10)] → PX9_years_L100 K82 post n y1 y2 y3 y4 y5 y7 y8 y9 y10 v_m → W p l e rmX9_years s m args below meth c H locs 0 0 (kn_Qi D tc w0 (fun (u : OV) => [(kModel, ad_m, u)]) (fun (r : Int32) (u : OV) => post r u) below args s 0 0) (F0 m 100 ls []) := by
  obtain ⟨S0, hr, hlocks, hK, hZ, hA⟩ := id X
  obtain ⟨hx, hb, hml, hown, hts⟩ := id S0
  intro n
  induction n with
  | zero =>
    intro H locs ls y1 y2 y3 y4 y5 y7 y8 y9 y10 v_m I hl h
    unfold PX9_years_L100 at h
    exact h.elim
  | succ n ih =>
    intro H locs ls y1 y2 y3 y4 y5 y7 y8 y9 y10 v_m I hl h
    unfold PX9_years_L100 at h
    refine lv_iload hx hb (kn_dec tX9_years_t0 54 rfl) (lv_at hl 9 rfl) ?_
    refine lv_iload_n hx hb (kn_dec tX9_years_t0 55 rfl) rfl (lv_at hl 2 rfl) ?_
    refine lv_icmp_ge (tgt := 140) hx hb (kn_dec tX9_years_t0 56 rfl) (by decide) (fun c1 => ?_) (fun c1 => ?_)
    · have h := h.1 c1
      refine lv_aload_n hx hb (kn_dec tX9_years_t1 14 rfl) rfl (lv_at hl 0 rfl) ?_
      refine lv_iconst (v := (0)) hx hb (kn_dec tX9_years_t1 15 rfl) (by decide) ?_
      refine kw_puti hx hb hts inX9 tyX9 tyX9_ok nmX9 hown hK I 0 rfl rfl 50 (by decide) rfl (hts _ q5_10) rfl (kn_nz (Or.inl rfl)) (kn_fz (Or.inl rfl)) (kn_dec tX9_years_t1 16 rfl) (fun v_m2 ev_m2 H locs I => ?_)
      have h := h v_m2 ev_m2
      have I : kn_I D tc (kn_A w0 s.heap.size) s.heap [(kModel, ad_m, _)] _ _ := I
      refine lv_iload hx hb (kn_dec tX9_years_t1 17 rfl) (lv_at hl 6 rfl) ?_
      refine lv_aload_n hx hb (kn_dec tX9_years_t1 18 rfl) rfl (lv_at hl 0 rfl) ?_
      refine kw_getl hx hb hts inX9 hown hK I 0 rfl rfl 1 (by decide) rfl (hts _ q4_201) (kn_dec tX9_years_t1 19 rfl) rfl ?_
      refine lv_bipush (v := (7)) hx hb (kn_dec tX9_years_t1 20 rfl) (by decide) ?_
      refine kw_iald hx hb hK I 0 rfl 1 12 (List.mem_of_getElem? (i := 0) rfl) (by unfold vp_in; decide) (kn_dec tX9_years_t1 21 rfl) ?_
      refine lv_iconst (v := (-1)) hx hb (kn_dec tX9_years_t1 22 rfl) (by decide) ?_
      refine lv_icmp_ne (tgt := 162) hx hb (kn_dec tX9_years_t1 23 rfl) (by decide) (fun c3 => ?_) (fun c3 => ?_)
      · have h := h.1 c3
        refine lv_iconst (v := (0)) hx hb (kn_dec tX9_years_t1 26 rfl) (by decide) ?_
        exact wX9_years_b163 X hK82 _ _ _ _ _ _ _ _ _ _ _ _ _ (Or.inl rfl) I (lv_sub hl [0, 1, 2, 3, 4, 5, 7, 8] rfl) h
      · have h := h.2 c3
        refine lv_iconst (v := (1)) hx hb (kn_dec tX9_years_t1 24 rfl) (by decide) ?_
        refine lv_goto (tgt := 163) hx hb (kn_dec tX9_years_t1 25 rfl) (by decide) ?_
        exact wX9_years_b163 X hK82 _ _ _ _ _ _ _ _ _ _ _ _ _ (Or.inr rfl) I (lv_sub hl [0, 1, 2, 3, 4, 5, 7, 8] rfl) h
    · have h := h.2 c1
      refine lv_aload_n hx hb (kn_dec tX9_years_t0 57 rfl) rfl (lv_at hl 0 rfl) ?_
      refine lv_aload_n hx hb (kn_dec tX9_years_t0 58 rfl) rfl (lv_at hl 0 rfl) ?_
      refine lv_bipush (v := (100)) hx hb (kn_dec tX9_years_t0 59 rfl) (by decide) ?_
      refine kw_calli (wc := [(kModel, ad_m, _)]) (wr := []) I hA [0] [] rfl rfl (by decide) (by decide) (kn_runV (As := [.int _]) S0 hK hZ hA I ((ctX9_draws h).met _) (kn_cwV 1 hts q7_102 q7_104 q0_87 q1_10 q7_105 rfl rfl (by decide +kernel) ⟨(Nat.le_of_ble_eq_true rfl), (Nat.le_of_ble_eq_true rfl)⟩) [0] rfl (by decide) 0 rfl rfl rfl rfl hl.1 rfl (Nat.le_of_ble_eq_true rfl) (kn_dec tX9_years_t1 0 rfl) ⟨(Nat.le_of_ble_eq_true rfl), (Nat.le_of_ble_eq_true rfl)⟩) (fun r5 u6 H locs h I => ?_)
      have I : kn_I D tc (kn_A w0 s.heap.size) s.heap [(kModel, ad_m, _)] _ _ := I
      refine lv_iload_n hx hb (kn_dec tX9_years_t1 1 rfl) rfl (lv_at hl 3 rfl) ?_
      refine lv_icmp_ge (tgt := 121) hx hb (kn_dec tX9_years_t1 2 rfl) (by decide) (fun c7 => ?_) (fun c7 => ?_)
      · have h := h.1 c7
        refine lv_iconst (v := (0)) hx hb (kn_dec tX9_years_t1 5 rfl) (by decide) ?_
        exact wX9_years_b122 X hK82 ih _ _ _ _ _ _ _ _ _ _ _ _ _ _ (Or.inl rfl) I (lv_sub hl [0, 1, 2, 3, 4, 5, 6, 7, 8, 9] rfl) h
      · have h := h.2 c7
        refine lv_iconst (v := (1)) hx hb (kn_dec tX9_years_t1 3 rfl) (by decide) ?_
        refine lv_goto (tgt := 122) hx hb (kn_dec tX9_years_t1 4 rfl) (by decide) ?_
        exact wX9_years_b122 X hK82 ih _ _ _ _ _ _ _ _ _ _ _ _ _ _ (Or.inr rfl) I (lv_sub hl [0, 1, 2, 3, 4, 5, 6, 7, 8, 9] rfl) h
def PX9_years_L82   (post : Int32 → OV → Prop) : Nat → Int32 → Int32 → Int32 → Int32 → Int32 → Int32 → Int32 → Int32 → Int32 → OV → Prop
  | 0, _, _, _, _, _, _, _, _, _, _ => False
  | n + 1, y1, y2, y3, y4, y5, y6, y7, y8, y9, v_m => ((y1 ≤ y9 → (∀ v_m2 : OV, v_m2 = sa v_m 1 (upd (v_m.2.1 1) ((10 : Int32)).toNatClampNeg y5) → ((¬ y4 = ((0 : Int32)) → post y8 v_m2) ∧ (y4 = ((0 : Int32)) → post y7 v_m2)))) ∧ (¬ y1 ≤ y9 → (∀ v_m4 : OV, v_m4 = sa v_m 1 (upd (v_m.2.1 1) ((10 : Int32)).toNatClampNeg y6) → (∃ n5 : Nat, PX9_years_L100 (PX9_years_L82 post n) post n5 y1 y2 y3 y4 y5 y7 y8 y9 ((0 : Int32)) v_m4))))
set_option maxRecDepth 100000 in
set_option maxHeartbeats 1000000 in
theorem wX9_years_L82   {post : Int32 → OV → Prop} {ad_m : Nat → Nat} (X : kn_X p s m args meth c cX9_years 11 (some .int) RX9 kn_all D tc Z (kn_A w0 s.heap.size))    : ∀ n : Nat, ∀ (H : Heap) (locs : List Loc) (ls : Array Slot) (y1 : Int32) (y2 : Int32) (y3 : Int32) (y4 : Int32) (y5 : Int32) (y6 : Int32) (y7 : Int32) (y8 : Int32) (y9 : Int32) (v_m : OV), kn_I D tc (kn_A w0 s.heap.size) s.heap [(kModel, ad_m, v_m)] H locs → lv_has ls 11 [(0, .ref (ad_m 0)), (1, .int y1), (2, .int y2), (3, .int y3), (4, .int y4), (5, .int y5), (6, .int y6), (7, .int y7), (8, .int y8), (9, .int y9)] → PX9_years_L82 post n y1 y2 y3 y4 y5 y6 y7 y8 y9 v_m → W p l e rmX9_years s m args below meth c H locs 0 0 (kn_Qi D tc w0 (fun (u : OV) => [(kModel, ad_m, u)]) (fun (r : Int32) (u : OV) => post r u) below args s 0 0) (F0 m 82 ls []) := by
  obtain ⟨S0, hr, hlocks, hK, hZ, hA⟩ := id X
  obtain ⟨hx, hb, hml, hown, hts⟩ := id S0
  intro n
  induction n with
  | zero =>
    intro H locs ls y1 y2 y3 y4 y5 y6 y7 y8 y9 v_m I hl h
    unfold PX9_years_L82 at h
    exact h.elim
  | succ n ih =>
    intro H locs ls y1 y2 y3 y4 y5 y6 y7 y8 y9 v_m I hl h
    unfold PX9_years_L82 at h
    refine lv_iload hx hb (kn_dec tX9_years_t0 44 rfl) (lv_at hl 9 rfl) ?_
    refine lv_iload_n hx hb (kn_dec tX9_years_t0 45 rfl) rfl (lv_at hl 1 rfl) ?_
    refine lv_icmp_ge (tgt := 185) hx hb (kn_dec tX9_years_t0 46 rfl) (by decide) (fun c1 => ?_) (fun c1 => ?_)
    · have h := h.1 c1
      refine lv_aload_n hx hb (kn_dec tX9_years_t1 38 rfl) rfl (lv_at hl 0 rfl) ?_
      refine kw_getl hx hb hts inX9 hown hK I 0 rfl rfl 1 (by decide) rfl (hts _ q4_201) (kn_dec tX9_years_t1 39 rfl) rfl ?_
      refine lv_bipush (v := (10)) hx hb (kn_dec tX9_years_t1 40 rfl) (by decide) ?_
      refine lv_iload hx hb (kn_dec tX9_years_t1 41 rfl) (lv_at hl 5 rfl) ?_
      refine kw_iast hx hb hK I 0 rfl 1 12 (List.mem_of_getElem? (i := 0) rfl) ukModel_1 (by unfold vp_in; decide) (kn_dec tX9_years_t1 42 rfl) (fun v_m2 ev_m2 H locs I => ?_)
      have h := h v_m2 ev_m2
      have I : kn_I D tc (kn_A w0 s.heap.size) s.heap [(kModel, ad_m, _)] _ _ := I
      refine lv_iload hx hb (kn_dec tX9_years_t1 43 rfl) (lv_at hl 4 rfl) ?_
      refine lv_if_ne (tgt := 204) hx hb (kn_dec tX9_years_t1 44 rfl) (by decide) (fun c3 => ?_) (fun c3 => ?_)
      · have h := h.1 c3
        refine lv_iload hx hb (kn_dec tX9_years_t1 47 rfl) (lv_at hl 8 rfl) ?_
        exact kw_iret hx hb hr hlocks I _ rfl h (kn_dec tX9_years_t1 48 rfl)
      · have h := h.2 c3
        refine lv_iload hx hb (kn_dec tX9_years_t1 45 rfl) (lv_at hl 7 rfl) ?_
        refine lv_goto (tgt := 206) hx hb (kn_dec tX9_years_t1 46 rfl) (by decide) ?_
        exact kw_iret hx hb hr hlocks I _ rfl h (kn_dec tX9_years_t1 48 rfl)
    · have h := h.2 c1
      refine lv_aload_n hx hb (kn_dec tX9_years_t0 47 rfl) rfl (lv_at hl 0 rfl) ?_
      refine kw_getl hx hb hts inX9 hown hK I 0 rfl rfl 1 (by decide) rfl (hts _ q4_201) (kn_dec tX9_years_t0 48 rfl) rfl ?_
      refine lv_bipush (v := (10)) hx hb (kn_dec tX9_years_t0 49 rfl) (by decide) ?_
      refine lv_iload hx hb (kn_dec tX9_years_t0 50 rfl) (lv_at hl 6 rfl) ?_
      refine kw_iast hx hb hK I 0 rfl 1 12 (List.mem_of_getElem? (i := 0) rfl) ukModel_1 (by unfold vp_in; decide) (kn_dec tX9_years_t0 51 rfl) (fun v_m4 ev_m4 H locs I => ?_)
      have h := h v_m4 ev_m4
      have I : kn_I D tc (kn_A w0 s.heap.size) s.heap [(kModel, ad_m, _)] _ _ := I
      refine lv_iconst (v := (0)) hx hb (kn_dec tX9_years_t0 52 rfl) (by decide) ?_
      refine lv_istore (lv' := [(10, .int _), (0, .ref (ad_m 0)), (1, .int _), (2, .int _), (3, .int _), (4, .int _), (5, .int _), (6, .int _), (7, .int _), (8, .int _), (9, .int _)]) hx hb (kn_dec tX9_years_t0 53 rfl) hl (by decide) rfl (fun ls hl => ?_)
      obtain ⟨n5, h⟩ := h
      exact wX9_years_L100 X ih n5 _ _ _ _ _ _ _ _ _ _ _ _ _  I (lv_sub hl [1, 2, 3, 4, 5, 6, 8, 9, 10, 0] rfl) h
def PX9_years  (v_m : OV) (a1 : Int32) (a2 : Int32) (a3 : Int32) (a4 : Int32) (post : Int32 → OV → Prop) : Prop := (PX9_isHill v_m (fun r1 => ((r1 = ((0 : Int32)) → post ((-1 : Int32)) v_m) ∧ (¬ r1 = ((0 : Int32)) → (PX9_in a1.toInt64 ((1 : Int64)) ((10 : Int64)) (fun r4 => ((r4 = ((0 : Int32)) → post ((-1 : Int32)) v_m) ∧ (¬ r4 = ((0 : Int32)) → (PX9_in a2.toInt64 ((1 : Int64)) ((60 : Int64)) (fun r7 => ((r7 = ((0 : Int32)) → post ((-1 : Int32)) v_m) ∧ (¬ r7 = ((0 : Int32)) → (PX9_in a3.toInt64 ((0 : Int64)) ((100 : Int64)) (fun r10 => ((r10 = ((0 : Int32)) → post ((-1 : Int32)) v_m) ∧ (¬ r10 = ((0 : Int32)) → (PX9_in a4.toInt64 ((0 : Int64)) ((1 : Int64)) (fun r13 => ((¬ r13 = ((0 : Int32)) → (∀ x16 : Int32, x16 = (v_m.2.1 1 ((10 : Int32)).toNatClampNeg) → (PX9_keepsAll v_m (fun v_m17 => (∃ n19 : Nat, PX9_years_L82 post n19 a1 a2 a3 a4 x16 x16 ((0 : Int32)) ((0 : Int32)) ((0 : Int32)) v_m17))))) ∧ (r13 = ((0 : Int32)) → post ((-1 : Int32)) v_m))))))))))))))))))))
set_option maxRecDepth 100000 in
set_option maxHeartbeats 1000000 in
theorem ctX9_years {l : Launch} {D : va_G} {tc : Nat → ClassId} {Z : (Nat → Nat) × (Nat → Nat)}  {ad_m : Nat → Nat} {v_m : OV} {a1 : Int32} {a2 : Int32} {a3 : Int32} {a4 : Int32}    {post : Int32 → OV → Prop} (h : PX9_years  v_m a1 a2 a3 a4 post) : CTi l D tc Z yX9_years (Cond.code yX9_years cX9_years 11 (some .int) :: kn_all) rmX9_years 0 0 [.ref (ad_m 0), .int a1, .int a2, .int a3, .int a4] [(kModel, ad_m, v_m)] (fun (u : OV) => [(kModel, ad_m, u)]) (fun (r : Int32) (u : OV) => post r u) := by
  refine kn_ofi (cc := cX9_years) (nL := 11) (ret := (some .int)) (lv := [(0, .ref (ad_m 0)), (1, .int a1), (2, .int a2), (3, .int a3), (4, .int a4)]) (by decide) (Nat.le_of_ble_eq_true rfl) rfl (fun p e s m below meth c ls X I hl _ => ?_)
  obtain ⟨S0, hr, hlocks, hK, hZ, hA⟩ := id X
  obtain ⟨hx, hb, hml, hown, hts⟩ := id S0
  unfold PX9_years at h
  refine lv_aload_n hx hb (kn_dec tX9_years_t0 0 rfl) rfl (lv_at hl 0 rfl) ?_
  refine kw_calli (wc := [(kModel, ad_m, _)]) (wr := []) I hA [0] [] rfl rfl (by decide) (by decide) (kn_runV (As := []) S0 hK hZ hA I ((ctX9_isHill h).met _) (kn_cwV 0 hts q6_147 q6_149 q0_64 q1_10 q6_150 rfl rfl (by decide +kernel) ⟨(Nat.le_of_ble_eq_true rfl), (Nat.le_of_ble_eq_true rfl)⟩) [0] rfl (by decide) 0 rfl rfl rfl rfl hl.1 rfl (Nat.le_of_ble_eq_true rfl) (kn_dec tX9_years_t0 1 rfl) ⟨(Nat.le_of_ble_eq_true rfl), (Nat.le_of_ble_eq_true rfl)⟩) (fun r1 u2 H locs h I => ?_)
  obtain ⟨hz_r1, h⟩ := h
  have I : kn_I D tc (kn_A _ s.heap.size) s.heap [(kModel, ad_m, _)] _ _ := I
  refine lv_if_eq (tgt := 54) hx hb (kn_dec tX9_years_t0 2 rfl) (by decide) (fun c3 => ?_) (fun c3 => ?_)
  · have h := h.1 c3
    refine lv_iconst (v := (-1)) hx hb (kn_dec tX9_years_t0 27 rfl) (by decide) ?_
    exact kw_iret hx hb hr hlocks I _ rfl h (kn_dec tX9_years_t0 28 rfl)
  · have h := h.2 c3
    refine lv_iload_n hx hb (kn_dec tX9_years_t0 3 rfl) rfl (lv_at hl 1 rfl) ?_
    refine lv_i2l hx hb (kn_dec tX9_years_t0 4 rfl) rfl ?_
    refine lv_lconst (v := 1) hx hb (kn_dec tX9_years_t0 5 rfl) (by decide) ?_
    refine lv_ldc2 (v := (10)) hx hb hown (hts _ q7_101) (kn_dec tX9_years_t0 6 rfl) ?_
    refine kw_calli (wc := []) (wr := [(kModel, ad_m, _)]) I hA [] [0] rfl rfl (by decide) (by decide) (kn_runS (As := [.long _, .long _, .long _]) S0 hK hZ hA I ((ctX9_in h).met _) (kn_cwS 3 hts q6_1 q6_2 q1_10 q6_3 rfl rfl (by decide +kernel) ⟨(Nat.le_of_ble_eq_true rfl), (Nat.le_of_ble_eq_true rfl)⟩) [] rfl (by decide) rfl hl.1 rfl (Nat.le_of_ble_eq_true rfl) (kn_dec tX9_years_t0 7 rfl) ⟨(Nat.le_of_ble_eq_true rfl), (Nat.le_of_ble_eq_true rfl)⟩) (fun r4 u5 H locs h I => ?_)
    obtain ⟨hz_r4, h⟩ := h
    have I : kn_I D tc (kn_A _ s.heap.size) s.heap [(kModel, ad_m, _)] _ _ := I
    refine lv_if_eq (tgt := 54) hx hb (kn_dec tX9_years_t0 8 rfl) (by decide) (fun c6 => ?_) (fun c6 => ?_)
    · have h := h.1 c6
      refine lv_iconst (v := (-1)) hx hb (kn_dec tX9_years_t0 27 rfl) (by decide) ?_
      exact kw_iret hx hb hr hlocks I _ rfl h (kn_dec tX9_years_t0 28 rfl)
    · have h := h.2 c6
      refine lv_iload_n hx hb (kn_dec tX9_years_t0 9 rfl) rfl (lv_at hl 2 rfl) ?_
      refine lv_i2l hx hb (kn_dec tX9_years_t0 10 rfl) rfl ?_
      refine lv_lconst (v := 1) hx hb (kn_dec tX9_years_t0 11 rfl) (by decide) ?_
      refine lv_ldc2 (v := (60)) hx hb hown (hts _ q7_29) (kn_dec tX9_years_t0 12 rfl) ?_
      refine kw_calli (wc := []) (wr := [(kModel, ad_m, _)]) I hA [] [0] rfl rfl (by decide) (by decide) (kn_runS (As := [.long _, .long _, .long _]) S0 hK hZ hA I ((ctX9_in h).met _) (kn_cwS 3 hts q6_1 q6_2 q1_10 q6_3 rfl rfl (by decide +kernel) ⟨(Nat.le_of_ble_eq_true rfl), (Nat.le_of_ble_eq_true rfl)⟩) [] rfl (by decide) rfl hl.1 rfl (Nat.le_of_ble_eq_true rfl) (kn_dec tX9_years_t0 13 rfl) ⟨(Nat.le_of_ble_eq_true rfl), (Nat.le_of_ble_eq_true rfl)⟩) (fun r7 u8 H locs h I => ?_)
      obtain ⟨hz_r7, h⟩ := h
      have I : kn_I D tc (kn_A _ s.heap.size) s.heap [(kModel, ad_m, _)] _ _ := I
      refine lv_if_eq (tgt := 54) hx hb (kn_dec tX9_years_t0 14 rfl) (by decide) (fun c9 => ?_) (fun c9 => ?_)
      · have h := h.1 c9
        refine lv_iconst (v := (-1)) hx hb (kn_dec tX9_years_t0 27 rfl) (by decide) ?_
        exact kw_iret hx hb hr hlocks I _ rfl h (kn_dec tX9_years_t0 28 rfl)
      · have h := h.2 c9
        refine lv_iload_n hx hb (kn_dec tX9_years_t0 15 rfl) rfl (lv_at hl 3 rfl) ?_
        refine lv_i2l hx hb (kn_dec tX9_years_t0 16 rfl) rfl ?_
        refine lv_lconst (v := 0) hx hb (kn_dec tX9_years_t0 17 rfl) (by decide) ?_
        refine lv_ldc2 (v := (100)) hx hb hown (hts _ q6_236) (kn_dec tX9_years_t0 18 rfl) ?_
        refine kw_calli (wc := []) (wr := [(kModel, ad_m, _)]) I hA [] [0] rfl rfl (by decide) (by decide) (kn_runS (As := [.long _, .long _, .long _]) S0 hK hZ hA I ((ctX9_in h).met _) (kn_cwS 3 hts q6_1 q6_2 q1_10 q6_3 rfl rfl (by decide +kernel) ⟨(Nat.le_of_ble_eq_true rfl), (Nat.le_of_ble_eq_true rfl)⟩) [] rfl (by decide) rfl hl.1 rfl (Nat.le_of_ble_eq_true rfl) (kn_dec tX9_years_t0 19 rfl) ⟨(Nat.le_of_ble_eq_true rfl), (Nat.le_of_ble_eq_true rfl)⟩) (fun r10 u11 H locs h I => ?_)
        obtain ⟨hz_r10, h⟩ := h
        have I : kn_I D tc (kn_A _ s.heap.size) s.heap [(kModel, ad_m, _)] _ _ := I
        refine lv_if_eq (tgt := 54) hx hb (kn_dec tX9_years_t0 20 rfl) (by decide) (fun c12 => ?_) (fun c12 => ?_)
        · have h := h.1 c12
          refine lv_iconst (v := (-1)) hx hb (kn_dec tX9_years_t0 27 rfl) (by decide) ?_
          exact kw_iret hx hb hr hlocks I _ rfl h (kn_dec tX9_years_t0 28 rfl)
        · have h := h.2 c12
          refine lv_iload hx hb (kn_dec tX9_years_t0 21 rfl) (lv_at hl 4 rfl) ?_
          refine lv_i2l hx hb (kn_dec tX9_years_t0 22 rfl) rfl ?_
          refine lv_lconst (v := 0) hx hb (kn_dec tX9_years_t0 23 rfl) (by decide) ?_
          refine lv_lconst (v := 1) hx hb (kn_dec tX9_years_t0 24 rfl) (by decide) ?_
          refine kw_calli (wc := []) (wr := [(kModel, ad_m, _)]) I hA [] [0] rfl rfl (by decide) (by decide) (kn_runS (As := [.long _, .long _, .long _]) S0 hK hZ hA I ((ctX9_in h).met _) (kn_cwS 3 hts q6_1 q6_2 q1_10 q6_3 rfl rfl (by decide +kernel) ⟨(Nat.le_of_ble_eq_true rfl), (Nat.le_of_ble_eq_true rfl)⟩) [] rfl (by decide) rfl hl.1 rfl (Nat.le_of_ble_eq_true rfl) (kn_dec tX9_years_t0 25 rfl) ⟨(Nat.le_of_ble_eq_true rfl), (Nat.le_of_ble_eq_true rfl)⟩) (fun r13 u14 H locs h I => ?_)
          obtain ⟨hz_r13, h⟩ := h
          have I : kn_I D tc (kn_A _ s.heap.size) s.heap [(kModel, ad_m, _)] _ _ := I
          refine lv_if_ne (tgt := 56) hx hb (kn_dec tX9_years_t0 26 rfl) (by decide) (fun c15 => ?_) (fun c15 => ?_)
          · have h := h.1 c15
            refine lv_aload_n hx hb (kn_dec tX9_years_t0 29 rfl) rfl (lv_at hl 0 rfl) ?_
            refine kw_getl hx hb hts inX9 hown hK I 0 rfl rfl 1 (by decide) rfl (hts _ q4_201) (kn_dec tX9_years_t0 30 rfl) rfl ?_
            refine lv_bipush (v := (10)) hx hb (kn_dec tX9_years_t0 31 rfl) (by decide) ?_
            refine kw_iald hx hb hK I 0 rfl 1 12 (List.mem_of_getElem? (i := 0) rfl) (by unfold vp_in; decide) (kn_dec tX9_years_t0 32 rfl) ?_
            refine lv_topi (fun x16 ex16 => ?_)
            have h := h x16 ex16
            refine lv_istore (lv' := [(5, .int _), (0, .ref (ad_m 0)), (1, .int _), (2, .int _), (3, .int _), (4, .int _)]) hx hb (kn_dec tX9_years_t0 33 rfl) hl (by decide) rfl (fun ls hl => ?_)
            refine lv_iload hx hb (kn_dec tX9_years_t0 34 rfl) (lv_at hl 0 rfl) ?_
            refine lv_istore (lv' := [(6, .int _), (5, .int _), (0, .ref (ad_m 0)), (1, .int _), (2, .int _), (3, .int _), (4, .int _)]) hx hb (kn_dec tX9_years_t0 35 rfl) hl (by decide) rfl (fun ls hl => ?_)
            refine lv_iconst (v := (0)) hx hb (kn_dec tX9_years_t0 36 rfl) (by decide) ?_
            refine lv_istore (lv' := [(7, .int _), (6, .int _), (5, .int _), (0, .ref (ad_m 0)), (1, .int _), (2, .int _), (3, .int _), (4, .int _)]) hx hb (kn_dec tX9_years_t0 37 rfl) hl (by decide) rfl (fun ls hl => ?_)
            refine lv_iconst (v := (0)) hx hb (kn_dec tX9_years_t0 38 rfl) (by decide) ?_
            refine lv_istore (lv' := [(8, .int _), (7, .int _), (6, .int _), (5, .int _), (0, .ref (ad_m 0)), (1, .int _), (2, .int _), (3, .int _), (4, .int _)]) hx hb (kn_dec tX9_years_t0 39 rfl) hl (by decide) rfl (fun ls hl => ?_)
            refine lv_aload_n hx hb (kn_dec tX9_years_t0 40 rfl) rfl (lv_at hl 4 rfl) ?_
            refine kw_callv (wc := [(kModel, ad_m, _)]) (wr := []) I hA [0] [] rfl rfl (by decide) (by decide) (kn_runV (As := []) S0 hK hZ hA I ((ctX9_keepsAll h).met _) (kn_cwV 0 hts q6_237 q6_239 q0_78 q1_10 q7_0 rfl rfl (by decide +kernel) ⟨(Nat.le_of_ble_eq_true rfl), (Nat.le_of_ble_eq_true rfl)⟩) [0] rfl (by decide) 0 rfl rfl rfl rfl hl.1 rfl (Nat.le_of_ble_eq_true rfl) (kn_dec tX9_years_t0 41 rfl) ⟨(Nat.le_of_ble_eq_true rfl), (Nat.le_of_ble_eq_true rfl)⟩) (fun u18 H locs h I => ?_)
            have I : kn_I D tc (kn_A _ s.heap.size) s.heap [(kModel, ad_m, _)] _ _ := I
            refine lv_iconst (v := (0)) hx hb (kn_dec tX9_years_t0 42 rfl) (by decide) ?_
            refine lv_istore (lv' := [(9, .int _), (8, .int _), (7, .int _), (6, .int _), (5, .int _), (0, .ref (ad_m 0)), (1, .int _), (2, .int _), (3, .int _), (4, .int _)]) hx hb (kn_dec tX9_years_t0 43 rfl) hl (by decide) rfl (fun ls hl => ?_)
            obtain ⟨n19, h⟩ := h
            exact wX9_years_L82 X n19 _ _ _ _ _ _ _ _ _ _ _ _ _  I (lv_sub hl [5, 6, 7, 8, 9, 4, 3, 2, 1, 0] rfl) h
          · have h := h.2 c15
            refine lv_iconst (v := (-1)) hx hb (kn_dec tX9_years_t0 27 rfl) (by decide) ?_
            exact kw_iret hx hb hr hlocks I _ rfl h (kn_dec tX9_years_t0 28 rfl)

/-! X9_count -/
abbrev rmX9_count : Room := { frames := 1, cells := 0, slots := 0, locals := 22 }
def PX9_count  (v_m : OV) (a1 : Int32) (post : Int32 → Prop) : Prop := ((a1 = (0 : Int32) → post (v_m.2.1 1 ((0 : Int32)).toNatClampNeg)) ∧ (¬ a1 = (0 : Int32) → ((a1 = (1 : Int32) → post (v_m.2.1 1 ((1 : Int32)).toNatClampNeg)) ∧ (¬ a1 = (1 : Int32) → ((a1 = (2 : Int32) → post (v_m.2.1 1 ((2 : Int32)).toNatClampNeg)) ∧ (¬ a1 = (2 : Int32) → ((a1 = (3 : Int32) → post (v_m.2.1 1 ((3 : Int32)).toNatClampNeg)) ∧ (¬ a1 = (3 : Int32) → ((a1 = (4 : Int32) → post (v_m.2.1 1 ((4 : Int32)).toNatClampNeg)) ∧ (¬ a1 = (4 : Int32) → ((a1 = (5 : Int32) → post (v_m.2.1 1 ((5 : Int32)).toNatClampNeg)) ∧ (¬ a1 = (5 : Int32) → ((a1 = (6 : Int32) → post (v_m.1 34)) ∧ (¬ a1 = (6 : Int32) → ((a1 = (7 : Int32) → post (v_m.2.1 1 ((11 : Int32)).toNatClampNeg)) ∧ (¬ a1 = (7 : Int32) → ((a1 = (8 : Int32) → post (v_m.2.1 1 ((8 : Int32)).toNatClampNeg)) ∧ (¬ a1 = (8 : Int32) → ((a1 = (9 : Int32) → post (v_m.2.1 1 ((7 : Int32)).toNatClampNeg)) ∧ (¬ a1 = (9 : Int32) → ((a1 = (10 : Int32) → (PX9_foundBy v_m (fun r12 => post r12))) ∧ (¬ a1 = (10 : Int32) → ((a1 = (11 : Int32) → (PX9_doWalk v_m (v_m.2.1 1 ((8 : Int32)).toNatClampNeg) (fun r15 => ((r15 = ((0 : Int32)) → post ((0 : Int32))) ∧ (¬ r15 = ((0 : Int32)) → post ((1 : Int32))))))) ∧ (¬ a1 = (11 : Int32) → ((a1 = (12 : Int32) → post (v_m.2.1 1 ((9 : Int32)).toNatClampNeg)) ∧ (¬ a1 = (12 : Int32) → ((a1 = (13 : Int32) → post (v_m.1 57)) ∧ (¬ a1 = (13 : Int32) → ((a1 = (14 : Int32) → post (v_m.2.1 1 ((10 : Int32)).toNatClampNeg)) ∧ (¬ a1 = (14 : Int32) → ((a1 = (15 : Int32) → post (v_m.1 30)) ∧ (¬ a1 = (15 : Int32) → post ((-1 : Int32))))))))))))))))))))))))))))))))))
set_option maxRecDepth 100000 in
set_option maxHeartbeats 1000000 in
theorem ctX9_count {l : Launch} {D : va_G} {tc : Nat → ClassId} {Z : (Nat → Nat) × (Nat → Nat)}  {ad_m : Nat → Nat} {v_m : OV} {a1 : Int32}    {post : Int32 → Prop} (h : PX9_count  v_m a1 post) : CTi l D tc Z yX9_count (Cond.code yX9_count cX9_count 2 (some .int) :: kn_all) rmX9_count 0 0 [.ref (ad_m 0), .int a1] [(kModel, ad_m, v_m)] (fun (u : Unit) => [(kModel, ad_m, v_m)]) (fun (r : Int32) (u : Unit) => post r) := by
  refine kn_ofi (cc := cX9_count) (nL := 2) (ret := (some .int)) (lv := [(0, .ref (ad_m 0)), (1, .int a1)]) (by decide) (Nat.le_of_ble_eq_true rfl) rfl (fun p e s m below meth c ls X I hl _ => ?_)
  obtain ⟨S0, hr, hlocks, hK, hZ, hA⟩ := id X
  obtain ⟨hx, hb, hml, hown, hts⟩ := id S0
  unfold PX9_count at h
  refine lv_iload_n hx hb (kn_dec tX9_count 0 rfl) rfl (lv_at hl 1 rfl) ?_
  rcases Classical.em (a1 = (0 : Int32)) with c1 | c1
  · have h := h.1 c1
    refine lv_tableIn (off := 79) (tgt := 80) hx hb (kn_dec tX9_count 1 rfl) (by rw [c1]; decide) (by rw [c1]; decide) (by rw [c1]; rfl) (by decide) ?_
    refine lv_aload_n hx hb (kn_dec tX9_count 2 rfl) rfl (lv_at hl 0 rfl) ?_
    refine kw_getl hx hb hts inX9 hown hK I 0 rfl rfl 1 (by decide) rfl (hts _ q4_201) (kn_dec tX9_count 3 rfl) rfl ?_
    refine lv_iconst (v := (0)) hx hb (kn_dec tX9_count 4 rfl) (by decide) ?_
    refine kw_iald hx hb hK I 0 rfl 1 12 (List.mem_of_getElem? (i := 0) rfl) (by unfold vp_in; decide) (kn_dec tX9_count 5 rfl) ?_
    exact kw_iret hx hb hr hlocks I () rfl h (kn_dec tX9_count 6 rfl)
  · have h := h.2 c1
    rcases Classical.em (a1 = (1 : Int32)) with c2 | c2
    · have h := h.1 c2
      refine lv_tableIn (off := 86) (tgt := 87) hx hb (kn_dec tX9_count 1 rfl) (by rw [c2]; decide) (by rw [c2]; decide) (by rw [c2]; rfl) (by decide) ?_
      refine lv_aload_n hx hb (kn_dec tX9_count 7 rfl) rfl (lv_at hl 0 rfl) ?_
      refine kw_getl hx hb hts inX9 hown hK I 0 rfl rfl 1 (by decide) rfl (hts _ q4_201) (kn_dec tX9_count 8 rfl) rfl ?_
      refine lv_iconst (v := (1)) hx hb (kn_dec tX9_count 9 rfl) (by decide) ?_
      refine kw_iald hx hb hK I 0 rfl 1 12 (List.mem_of_getElem? (i := 0) rfl) (by unfold vp_in; decide) (kn_dec tX9_count 10 rfl) ?_
      exact kw_iret hx hb hr hlocks I () rfl h (kn_dec tX9_count 11 rfl)
    · have h := h.2 c2
      rcases Classical.em (a1 = (2 : Int32)) with c3 | c3
      · have h := h.1 c3
        refine lv_tableIn (off := 93) (tgt := 94) hx hb (kn_dec tX9_count 1 rfl) (by rw [c3]; decide) (by rw [c3]; decide) (by rw [c3]; rfl) (by decide) ?_
        refine lv_aload_n hx hb (kn_dec tX9_count 12 rfl) rfl (lv_at hl 0 rfl) ?_
        refine kw_getl hx hb hts inX9 hown hK I 0 rfl rfl 1 (by decide) rfl (hts _ q4_201) (kn_dec tX9_count 13 rfl) rfl ?_
        refine lv_iconst (v := (2)) hx hb (kn_dec tX9_count 14 rfl) (by decide) ?_
        refine kw_iald hx hb hK I 0 rfl 1 12 (List.mem_of_getElem? (i := 0) rfl) (by unfold vp_in; decide) (kn_dec tX9_count 15 rfl) ?_
        exact kw_iret hx hb hr hlocks I () rfl h (kn_dec tX9_count 16 rfl)
      · have h := h.2 c3
        rcases Classical.em (a1 = (3 : Int32)) with c4 | c4
        · have h := h.1 c4
          refine lv_tableIn (off := 100) (tgt := 101) hx hb (kn_dec tX9_count 1 rfl) (by rw [c4]; decide) (by rw [c4]; decide) (by rw [c4]; rfl) (by decide) ?_
          refine lv_aload_n hx hb (kn_dec tX9_count 17 rfl) rfl (lv_at hl 0 rfl) ?_
          refine kw_getl hx hb hts inX9 hown hK I 0 rfl rfl 1 (by decide) rfl (hts _ q4_201) (kn_dec tX9_count 18 rfl) rfl ?_
          refine lv_iconst (v := (3)) hx hb (kn_dec tX9_count 19 rfl) (by decide) ?_
          refine kw_iald hx hb hK I 0 rfl 1 12 (List.mem_of_getElem? (i := 0) rfl) (by unfold vp_in; decide) (kn_dec tX9_count 20 rfl) ?_
          exact kw_iret hx hb hr hlocks I () rfl h (kn_dec tX9_count 21 rfl)
        · have h := h.2 c4
          rcases Classical.em (a1 = (4 : Int32)) with c5 | c5
          · have h := h.1 c5
            refine lv_tableIn (off := 107) (tgt := 108) hx hb (kn_dec tX9_count 1 rfl) (by rw [c5]; decide) (by rw [c5]; decide) (by rw [c5]; rfl) (by decide) ?_
            refine lv_aload_n hx hb (kn_dec tX9_count 22 rfl) rfl (lv_at hl 0 rfl) ?_
            refine kw_getl hx hb hts inX9 hown hK I 0 rfl rfl 1 (by decide) rfl (hts _ q4_201) (kn_dec tX9_count 23 rfl) rfl ?_
            refine lv_iconst (v := (4)) hx hb (kn_dec tX9_count 24 rfl) (by decide) ?_
            refine kw_iald hx hb hK I 0 rfl 1 12 (List.mem_of_getElem? (i := 0) rfl) (by unfold vp_in; decide) (kn_dec tX9_count 25 rfl) ?_
            exact kw_iret hx hb hr hlocks I () rfl h (kn_dec tX9_count 26 rfl)
          · have h := h.2 c5
            rcases Classical.em (a1 = (5 : Int32)) with c6 | c6
            · have h := h.1 c6
              refine lv_tableIn (off := 114) (tgt := 115) hx hb (kn_dec tX9_count 1 rfl) (by rw [c6]; decide) (by rw [c6]; decide) (by rw [c6]; rfl) (by decide) ?_
              refine lv_aload_n hx hb (kn_dec tX9_count 27 rfl) rfl (lv_at hl 0 rfl) ?_
              refine kw_getl hx hb hts inX9 hown hK I 0 rfl rfl 1 (by decide) rfl (hts _ q4_201) (kn_dec tX9_count 28 rfl) rfl ?_
              refine lv_iconst (v := (5)) hx hb (kn_dec tX9_count 29 rfl) (by decide) ?_
              refine kw_iald hx hb hK I 0 rfl 1 12 (List.mem_of_getElem? (i := 0) rfl) (by unfold vp_in; decide) (kn_dec tX9_count 30 rfl) ?_
              exact kw_iret hx hb hr hlocks I () rfl h (kn_dec tX9_count 31 rfl)
            · have h := h.2 c6
              rcases Classical.em (a1 = (6 : Int32)) with c7 | c7
              · have h := h.1 c7
                refine lv_tableIn (off := 121) (tgt := 122) hx hb (kn_dec tX9_count 1 rfl) (by rw [c7]; decide) (by rw [c7]; decide) (by rw [c7]; rfl) (by decide) ?_
                refine lv_aload_n hx hb (kn_dec tX9_count 32 rfl) rfl (lv_at hl 0 rfl) ?_
                refine kw_geti hx hb hts inX9 hown hK I 0 rfl rfl 34 (by decide) rfl (hts _ q4_234) (kn_dec tX9_count 33 rfl) ?_
                exact kw_iret hx hb hr hlocks I () rfl h (kn_dec tX9_count 34 rfl)
              · have h := h.2 c7
                rcases Classical.em (a1 = (7 : Int32)) with c8 | c8
                · have h := h.1 c8
                  refine lv_tableIn (off := 126) (tgt := 127) hx hb (kn_dec tX9_count 1 rfl) (by rw [c8]; decide) (by rw [c8]; decide) (by rw [c8]; rfl) (by decide) ?_
                  refine lv_aload_n hx hb (kn_dec tX9_count 35 rfl) rfl (lv_at hl 0 rfl) ?_
                  refine kw_getl hx hb hts inX9 hown hK I 0 rfl rfl 1 (by decide) rfl (hts _ q4_201) (kn_dec tX9_count 36 rfl) rfl ?_
                  refine lv_bipush (v := (11)) hx hb (kn_dec tX9_count 37 rfl) (by decide) ?_
                  refine kw_iald hx hb hK I 0 rfl 1 12 (List.mem_of_getElem? (i := 0) rfl) (by unfold vp_in; decide) (kn_dec tX9_count 38 rfl) ?_
                  exact kw_iret hx hb hr hlocks I () rfl h (kn_dec tX9_count 39 rfl)
                · have h := h.2 c8
                  rcases Classical.em (a1 = (8 : Int32)) with c9 | c9
                  · have h := h.1 c9
                    refine lv_tableIn (off := 134) (tgt := 135) hx hb (kn_dec tX9_count 1 rfl) (by rw [c9]; decide) (by rw [c9]; decide) (by rw [c9]; rfl) (by decide) ?_
                    refine lv_aload_n hx hb (kn_dec tX9_count 40 rfl) rfl (lv_at hl 0 rfl) ?_
                    refine kw_getl hx hb hts inX9 hown hK I 0 rfl rfl 1 (by decide) rfl (hts _ q4_201) (kn_dec tX9_count 41 rfl) rfl ?_
                    refine lv_bipush (v := (8)) hx hb (kn_dec tX9_count 42 rfl) (by decide) ?_
                    refine kw_iald hx hb hK I 0 rfl 1 12 (List.mem_of_getElem? (i := 0) rfl) (by unfold vp_in; decide) (kn_dec tX9_count 43 rfl) ?_
                    exact kw_iret hx hb hr hlocks I () rfl h (kn_dec tX9_count 44 rfl)
                  · have h := h.2 c9
                    rcases Classical.em (a1 = (9 : Int32)) with c10 | c10
                    · have h := h.1 c10
                      refine lv_tableIn (off := 142) (tgt := 143) hx hb (kn_dec tX9_count 1 rfl) (by rw [c10]; decide) (by rw [c10]; decide) (by rw [c10]; rfl) (by decide) ?_
                      refine lv_aload_n hx hb (kn_dec tX9_count 45 rfl) rfl (lv_at hl 0 rfl) ?_
                      refine kw_getl hx hb hts inX9 hown hK I 0 rfl rfl 1 (by decide) rfl (hts _ q4_201) (kn_dec tX9_count 46 rfl) rfl ?_
                      refine lv_bipush (v := (7)) hx hb (kn_dec tX9_count 47 rfl) (by decide) ?_
                      refine kw_iald hx hb hK I 0 rfl 1 12 (List.mem_of_getElem? (i := 0) rfl) (by unfold vp_in; decide) (kn_dec tX9_count 48 rfl) ?_
                      exact kw_iret hx hb hr hlocks I () rfl h (kn_dec tX9_count 49 rfl)
                    · have h := h.2 c10
                      rcases Classical.em (a1 = (10 : Int32)) with c11 | c11
                      · have h := h.1 c11
                        refine lv_tableIn (off := 150) (tgt := 151) hx hb (kn_dec tX9_count 1 rfl) (by rw [c11]; decide) (by rw [c11]; decide) (by rw [c11]; rfl) (by decide) ?_
                        refine lv_aload_n hx hb (kn_dec tX9_count 50 rfl) rfl (lv_at hl 0 rfl) ?_
                        refine kw_calli (wc := [(kModel, ad_m, _)]) (wr := []) I hA [0] [] rfl rfl (by decide) (by decide) (kn_runV (As := []) S0 hK hZ hA I ((ctX9_foundBy h).met _) (kn_cwV 0 hts q6_178 q6_180 q0_71 q1_10 q6_181 rfl rfl (by decide +kernel) ⟨(Nat.le_of_ble_eq_true rfl), (Nat.le_of_ble_eq_true rfl)⟩) [0] rfl (by decide) 0 rfl rfl rfl rfl hl.1 rfl (Nat.le_of_ble_eq_true rfl) (kn_dec tX9_count 51 rfl) ⟨(Nat.le_of_ble_eq_true rfl), (Nat.le_of_ble_eq_true rfl)⟩) (fun r12 u13 H locs h I => ?_)
                        have I : kn_I D tc (kn_A _ s.heap.size) s.heap [(kModel, ad_m, _)] _ _ := I
                        exact kw_iret hx hb hr hlocks I () rfl h (kn_dec tX9_count 52 rfl)
                      · have h := h.2 c11
                        rcases Classical.em (a1 = (11 : Int32)) with c14 | c14
                        · have h := h.1 c14
                          refine lv_tableIn (off := 155) (tgt := 156) hx hb (kn_dec tX9_count 1 rfl) (by rw [c14]; decide) (by rw [c14]; decide) (by rw [c14]; rfl) (by decide) ?_
                          refine lv_aload_n hx hb (kn_dec tX9_count 53 rfl) rfl (lv_at hl 0 rfl) ?_
                          refine lv_aload_n hx hb (kn_dec tX9_count 54 rfl) rfl (lv_at hl 0 rfl) ?_
                          refine kw_getl hx hb hts inX9 hown hK I 0 rfl rfl 1 (by decide) rfl (hts _ q4_201) (kn_dec tX9_count 55 rfl) rfl ?_
                          refine lv_bipush (v := (8)) hx hb (kn_dec tX9_count 56 rfl) (by decide) ?_
                          refine kw_iald hx hb hK I 0 rfl 1 12 (List.mem_of_getElem? (i := 0) rfl) (by unfold vp_in; decide) (kn_dec tX9_count 57 rfl) ?_
                          refine kw_calli (wc := [(kModel, ad_m, _)]) (wr := []) I hA [0] [] rfl rfl (by decide) (by decide) (kn_runV (As := [.int _]) S0 hK hZ hA I ((ctX9_doWalk h).met _) (kn_cwV 1 hts q6_211 q6_213 q0_77 q1_10 q6_214 rfl rfl (by decide +kernel) ⟨(Nat.le_of_ble_eq_true rfl), (Nat.le_of_ble_eq_true rfl)⟩) [0] rfl (by decide) 0 rfl rfl rfl rfl hl.1 rfl (Nat.le_of_ble_eq_true rfl) (kn_dec tX9_count 58 rfl) ⟨(Nat.le_of_ble_eq_true rfl), (Nat.le_of_ble_eq_true rfl)⟩) (fun r15 u16 H locs h I => ?_)
                          obtain ⟨hz_r15, h⟩ := h
                          have I : kn_I D tc (kn_A _ s.heap.size) s.heap [(kModel, ad_m, _)] _ _ := I
                          refine lv_if_eq (tgt := 174) hx hb (kn_dec tX9_count 59 rfl) (by decide) (fun c17 => ?_) (fun c17 => ?_)
                          · have h := h.1 c17
                            refine lv_iconst (v := (0)) hx hb (kn_dec tX9_count 62 rfl) (by decide) ?_
                            exact kw_iret hx hb hr hlocks I () rfl h (kn_dec tX9_count 63 rfl)
                          · have h := h.2 c17
                            refine lv_iconst (v := (1)) hx hb (kn_dec tX9_count 60 rfl) (by decide) ?_
                            refine lv_goto (tgt := 175) hx hb (kn_dec tX9_count 61 rfl) (by decide) ?_
                            exact kw_iret hx hb hr hlocks I () rfl h (kn_dec tX9_count 63 rfl)
                        · have h := h.2 c14
                          rcases Classical.em (a1 = (12 : Int32)) with c18 | c18
                          · have h := h.1 c18
                            refine lv_tableIn (off := 175) (tgt := 176) hx hb (kn_dec tX9_count 1 rfl) (by rw [c18]; decide) (by rw [c18]; decide) (by rw [c18]; rfl) (by decide) ?_
                            refine lv_aload_n hx hb (kn_dec tX9_count 64 rfl) rfl (lv_at hl 0 rfl) ?_
                            refine kw_getl hx hb hts inX9 hown hK I 0 rfl rfl 1 (by decide) rfl (hts _ q4_201) (kn_dec tX9_count 65 rfl) rfl ?_
                            refine lv_bipush (v := (9)) hx hb (kn_dec tX9_count 66 rfl) (by decide) ?_
                            refine kw_iald hx hb hK I 0 rfl 1 12 (List.mem_of_getElem? (i := 0) rfl) (by unfold vp_in; decide) (kn_dec tX9_count 67 rfl) ?_
                            exact kw_iret hx hb hr hlocks I () rfl h (kn_dec tX9_count 68 rfl)
                          · have h := h.2 c18
                            rcases Classical.em (a1 = (13 : Int32)) with c19 | c19
                            · have h := h.1 c19
                              refine lv_tableIn (off := 183) (tgt := 184) hx hb (kn_dec tX9_count 1 rfl) (by rw [c19]; decide) (by rw [c19]; decide) (by rw [c19]; rfl) (by decide) ?_
                              refine lv_aload_n hx hb (kn_dec tX9_count 69 rfl) rfl (lv_at hl 0 rfl) ?_
                              refine kw_geti hx hb hts inX9 hown hK I 0 rfl rfl 57 (by decide) rfl (hts _ q5_17) (kn_dec tX9_count 70 rfl) ?_
                              exact kw_iret hx hb hr hlocks I () rfl h (kn_dec tX9_count 71 rfl)
                            · have h := h.2 c19
                              rcases Classical.em (a1 = (14 : Int32)) with c20 | c20
                              · have h := h.1 c20
                                refine lv_tableIn (off := 188) (tgt := 189) hx hb (kn_dec tX9_count 1 rfl) (by rw [c20]; decide) (by rw [c20]; decide) (by rw [c20]; rfl) (by decide) ?_
                                refine lv_aload_n hx hb (kn_dec tX9_count 72 rfl) rfl (lv_at hl 0 rfl) ?_
                                refine kw_getl hx hb hts inX9 hown hK I 0 rfl rfl 1 (by decide) rfl (hts _ q4_201) (kn_dec tX9_count 73 rfl) rfl ?_
                                refine lv_bipush (v := (10)) hx hb (kn_dec tX9_count 74 rfl) (by decide) ?_
                                refine kw_iald hx hb hK I 0 rfl 1 12 (List.mem_of_getElem? (i := 0) rfl) (by unfold vp_in; decide) (kn_dec tX9_count 75 rfl) ?_
                                exact kw_iret hx hb hr hlocks I () rfl h (kn_dec tX9_count 76 rfl)
                              · have h := h.2 c20
                                rcases Classical.em (a1 = (15 : Int32)) with c21 | c21
                                · have h := h.1 c21
                                  refine lv_tableIn (off := 196) (tgt := 197) hx hb (kn_dec tX9_count 1 rfl) (by rw [c21]; decide) (by rw [c21]; decide) (by rw [c21]; rfl) (by decide) ?_
                                  refine lv_aload_n hx hb (kn_dec tX9_count 77 rfl) rfl (lv_at hl 0 rfl) ?_
                                  refine kw_geti hx hb hts inX9 hown hK I 0 rfl rfl 30 (by decide) rfl (hts _ q4_230) (kn_dec tX9_count 78 rfl) ?_
                                  exact kw_iret hx hb hr hlocks I () rfl h (kn_dec tX9_count 79 rfl)
                                · have h := h.2 c21
                                  refine lv_tableOut (tgt := 202) hx hb (kn_dec tX9_count 1 rfl) (by have z0 := kn_nei (k := 0) c1 (by decide); have z1 := kn_nei (k := 1) c2 (by decide); have z2 := kn_nei (k := 2) c3 (by decide); have z3 := kn_nei (k := 3) c4 (by decide); have z4 := kn_nei (k := 4) c5 (by decide); have z5 := kn_nei (k := 5) c6 (by decide); have z6 := kn_nei (k := 6) c7 (by decide); have z7 := kn_nei (k := 7) c8 (by decide); have z8 := kn_nei (k := 8) c9 (by decide); have z9 := kn_nei (k := 9) c10 (by decide); have z10 := kn_nei (k := 10) c11 (by decide); have z11 := kn_nei (k := 11) c14 (by decide); have z12 := kn_nei (k := 12) c18 (by decide); have z13 := kn_nei (k := 13) c19 (by decide); have z14 := kn_nei (k := 14) c20 (by decide); have z15 := kn_nei (k := 15) c21 (by decide); omega) (by decide) ?_
                                  refine lv_iconst (v := (-1)) hx hb (kn_dec tX9_count 80 rfl) (by decide) ?_
                                  exact kw_iret hx hb hr hlocks I () rfl h (kn_dec tX9_count 81 rfl)

/-! X9_image -/
abbrev rmX9_image : Room := { frames := 2, cells := 0, slots := 0, locals := 44 }
def PX9_image  (v_m : OV) (a1 : Int32) (post : Int32 → OV → Prop) : Prop := (PX9_in a1.toInt64 ((0 : Int64)) ((3 : Int64)) (fun r1 => ((¬ r1 = ((0 : Int32)) → (vp_in a1 4 ∧ (∀ v_m5 : OV, v_m5 = sa v_m 64 (upd (v_m.2.1 64) a1.toNatClampNeg (vp_nar .boolean ((1 : Int32)))) → (PX9_carriesAll v_m5 a1 ((0 : Int32)) (fun v_m6 => post (v_m6.2.1 1 ((8 : Int32)).toNatClampNeg) v_m6))))) ∧ (r1 = ((0 : Int32)) → post ((-1 : Int32)) v_m))))
set_option maxRecDepth 100000 in
set_option maxHeartbeats 1000000 in
theorem ctX9_image {l : Launch} {D : va_G} {tc : Nat → ClassId} {Z : (Nat → Nat) × (Nat → Nat)}  {ad_m : Nat → Nat} {v_m : OV} {a1 : Int32}    {post : Int32 → OV → Prop} (h : PX9_image  v_m a1 post) : CTi l D tc Z yX9_image (Cond.code yX9_image cX9_image 2 (some .int) :: kn_all) rmX9_image 0 0 [.ref (ad_m 0), .int a1] [(kModel, ad_m, v_m)] (fun (u : OV) => [(kModel, ad_m, u)]) (fun (r : Int32) (u : OV) => post r u) := by
  refine kn_ofi (cc := cX9_image) (nL := 2) (ret := (some .int)) (lv := [(0, .ref (ad_m 0)), (1, .int a1)]) (by decide) (Nat.le_of_ble_eq_true rfl) rfl (fun p e s m below meth c ls X I hl _ => ?_)
  obtain ⟨S0, hr, hlocks, hK, hZ, hA⟩ := id X
  obtain ⟨hx, hb, hml, hown, hts⟩ := id S0
  unfold PX9_image at h
  refine lv_iload_n hx hb (kn_dec tX9_image 0 rfl) rfl (lv_at hl 1 rfl) ?_
  refine lv_i2l hx hb (kn_dec tX9_image 1 rfl) rfl ?_
  refine lv_lconst (v := 0) hx hb (kn_dec tX9_image 2 rfl) (by decide) ?_
  refine lv_ldc2 (v := (3)) hx hb hown (hts _ q7_118) (kn_dec tX9_image 3 rfl) ?_
  refine kw_calli (wc := []) (wr := [(kModel, ad_m, _)]) I hA [] [0] rfl rfl (by decide) (by decide) (kn_runS (As := [.long _, .long _, .long _]) S0 hK hZ hA I ((ctX9_in h).met _) (kn_cwS 3 hts q6_1 q6_2 q1_10 q6_3 rfl rfl (by decide +kernel) ⟨(Nat.le_of_ble_eq_true rfl), (Nat.le_of_ble_eq_true rfl)⟩) [] rfl (by decide) rfl hl.1 rfl (Nat.le_of_ble_eq_true rfl) (kn_dec tX9_image 4 rfl) ⟨(Nat.le_of_ble_eq_true rfl), (Nat.le_of_ble_eq_true rfl)⟩) (fun r1 u2 H locs h I => ?_)
  obtain ⟨hz_r1, h⟩ := h
  have I : kn_I D tc (kn_A _ s.heap.size) s.heap [(kModel, ad_m, _)] _ _ := I
  refine lv_if_ne (tgt := 14) hx hb (kn_dec tX9_image 5 rfl) (by decide) (fun c3 => ?_) (fun c3 => ?_)
  · have h := h.1 c3
    refine lv_aload_n hx hb (kn_dec tX9_image 8 rfl) rfl (lv_at hl 0 rfl) ?_
    refine kw_getl hx hb hts inX9 hown hK I 0 rfl rfl 64 (by decide) rfl (hts _ q5_24) (kn_dec tX9_image 9 rfl) rfl ?_
    refine lv_iload_n hx hb (kn_dec tX9_image 10 rfl) rfl (lv_at hl 1 rfl) ?_
    refine lv_iconst (v := (1)) hx hb (kn_dec tX9_image 11 rfl) (by decide) ?_
    obtain ⟨hs4, h⟩ := h
    refine kw_zast hx hb hK I 0 rfl 64 4 (List.mem_of_getElem? (i := 47) rfl) ukModel_64 hs4 (kn_dec tX9_image 12 rfl) (fun v_m5 ev_m5 H locs I => ?_)
    have h := h v_m5 ev_m5
    have I : kn_I D tc (kn_A _ s.heap.size) s.heap [(kModel, ad_m, _)] _ _ := I
    refine lv_aload_n hx hb (kn_dec tX9_image 13 rfl) rfl (lv_at hl 0 rfl) ?_
    refine lv_iload_n hx hb (kn_dec tX9_image 14 rfl) rfl (lv_at hl 1 rfl) ?_
    refine lv_iconst (v := (0)) hx hb (kn_dec tX9_image 15 rfl) (by decide) ?_
    refine kw_callv (wc := [(kModel, ad_m, _)]) (wr := []) I hA [0] [] rfl rfl (by decide) (by decide) (kn_runV (As := [.int _, .int _]) S0 hK hZ hA I ((ctX9_carriesAll (Or.inl rfl) h).met _) (kn_cwV 2 hts q7_1 q7_3 q0_79 q1_10 q7_4 rfl rfl (by decide +kernel) ⟨(Nat.le_of_ble_eq_true rfl), (Nat.le_of_ble_eq_true rfl)⟩) [0] rfl (by decide) 0 rfl rfl rfl rfl hl.1 rfl (Nat.le_of_ble_eq_true rfl) (kn_dec tX9_image 16 rfl) ⟨(Nat.le_of_ble_eq_true rfl), (Nat.le_of_ble_eq_true rfl)⟩) (fun u7 H locs h I => ?_)
    have I : kn_I D tc (kn_A _ s.heap.size) s.heap [(kModel, ad_m, _)] _ _ := I
    refine lv_aload_n hx hb (kn_dec tX9_image 17 rfl) rfl (lv_at hl 0 rfl) ?_
    refine kw_getl hx hb hts inX9 hown hK I 0 rfl rfl 1 (by decide) rfl (hts _ q4_201) (kn_dec tX9_image 18 rfl) rfl ?_
    refine lv_bipush (v := (8)) hx hb (kn_dec tX9_image 19 rfl) (by decide) ?_
    refine kw_iald hx hb hK I 0 rfl 1 12 (List.mem_of_getElem? (i := 0) rfl) (by unfold vp_in; decide) (kn_dec tX9_image 20 rfl) ?_
    exact kw_iret hx hb hr hlocks I _ rfl h (kn_dec tX9_image 21 rfl)
  · have h := h.2 c3
    refine lv_iconst (v := (-1)) hx hb (kn_dec tX9_image 6 rfl) (by decide) ?_
    exact kw_iret hx hb hr hlocks I _ rfl h (kn_dec tX9_image 7 rfl)

/-! X9_back -/
abbrev rmX9_back : Room := { frames := 2, cells := 0, slots := 0, locals := 44 }
def PX9_back  (v_m : OV) (a1 : Int32) (post : Int32 → OV → Prop) : Prop := (PX9_in a1.toInt64 ((0 : Int64)) ((3 : Int64)) (fun r1 => ((r1 = ((0 : Int32)) → post ((-1 : Int32)) v_m) ∧ (¬ r1 = ((0 : Int32)) → (vp_in a1 4 ∧ ((¬ (v_m.2.1 64 a1.toNatClampNeg) = ((0 : Int32)) → (PX9_carriesAll v_m a1 ((1 : Int32)) (fun v_m6 => post (v_m6.2.1 1 ((8 : Int32)).toNatClampNeg) v_m6))) ∧ ((v_m.2.1 64 a1.toNatClampNeg) = ((0 : Int32)) → post ((-1 : Int32)) v_m)))))))
set_option maxRecDepth 100000 in
set_option maxHeartbeats 1000000 in
theorem ctX9_back {l : Launch} {D : va_G} {tc : Nat → ClassId} {Z : (Nat → Nat) × (Nat → Nat)}  {ad_m : Nat → Nat} {v_m : OV} {a1 : Int32}    {post : Int32 → OV → Prop} (h : PX9_back  v_m a1 post) : CTi l D tc Z yX9_back (Cond.code yX9_back cX9_back 2 (some .int) :: kn_all) rmX9_back 0 0 [.ref (ad_m 0), .int a1] [(kModel, ad_m, v_m)] (fun (u : OV) => [(kModel, ad_m, u)]) (fun (r : Int32) (u : OV) => post r u) := by
  refine kn_ofi (cc := cX9_back) (nL := 2) (ret := (some .int)) (lv := [(0, .ref (ad_m 0)), (1, .int a1)]) (by decide) (Nat.le_of_ble_eq_true rfl) rfl (fun p e s m below meth c ls X I hl _ => ?_)
  obtain ⟨S0, hr, hlocks, hK, hZ, hA⟩ := id X
  obtain ⟨hx, hb, hml, hown, hts⟩ := id S0
  unfold PX9_back at h
  refine lv_iload_n hx hb (kn_dec tX9_back 0 rfl) rfl (lv_at hl 1 rfl) ?_
  refine lv_i2l hx hb (kn_dec tX9_back 1 rfl) rfl ?_
  refine lv_lconst (v := 0) hx hb (kn_dec tX9_back 2 rfl) (by decide) ?_
  refine lv_ldc2 (v := (3)) hx hb hown (hts _ q7_118) (kn_dec tX9_back 3 rfl) ?_
  refine kw_calli (wc := []) (wr := [(kModel, ad_m, _)]) I hA [] [0] rfl rfl (by decide) (by decide) (kn_runS (As := [.long _, .long _, .long _]) S0 hK hZ hA I ((ctX9_in h).met _) (kn_cwS 3 hts q6_1 q6_2 q1_10 q6_3 rfl rfl (by decide +kernel) ⟨(Nat.le_of_ble_eq_true rfl), (Nat.le_of_ble_eq_true rfl)⟩) [] rfl (by decide) rfl hl.1 rfl (Nat.le_of_ble_eq_true rfl) (kn_dec tX9_back 4 rfl) ⟨(Nat.le_of_ble_eq_true rfl), (Nat.le_of_ble_eq_true rfl)⟩) (fun r1 u2 H locs h I => ?_)
  obtain ⟨hz_r1, h⟩ := h
  have I : kn_I D tc (kn_A _ s.heap.size) s.heap [(kModel, ad_m, _)] _ _ := I
  refine lv_if_eq (tgt := 21) hx hb (kn_dec tX9_back 5 rfl) (by decide) (fun c3 => ?_) (fun c3 => ?_)
  · have h := h.1 c3
    refine lv_iconst (v := (-1)) hx hb (kn_dec tX9_back 11 rfl) (by decide) ?_
    exact kw_iret hx hb hr hlocks I _ rfl h (kn_dec tX9_back 12 rfl)
  · have h := h.2 c3
    refine lv_aload_n hx hb (kn_dec tX9_back 6 rfl) rfl (lv_at hl 0 rfl) ?_
    refine kw_getl hx hb hts inX9 hown hK I 0 rfl rfl 64 (by decide) rfl (hts _ q5_24) (kn_dec tX9_back 7 rfl) rfl ?_
    refine lv_iload_n hx hb (kn_dec tX9_back 8 rfl) rfl (lv_at hl 1 rfl) ?_
    obtain ⟨hs4, h⟩ := h
    refine kw_zald hx hb hK I 0 rfl 64 4 (List.mem_of_getElem? (i := 47) rfl) hs4 (kn_dec tX9_back 9 rfl) ?_
    refine lv_if_ne (tgt := 23) hx hb (kn_dec tX9_back 10 rfl) (by decide) (fun c5 => ?_) (fun c5 => ?_)
    · have h := h.1 c5
      refine lv_aload_n hx hb (kn_dec tX9_back 13 rfl) rfl (lv_at hl 0 rfl) ?_
      refine lv_iload_n hx hb (kn_dec tX9_back 14 rfl) rfl (lv_at hl 1 rfl) ?_
      refine lv_iconst (v := (1)) hx hb (kn_dec tX9_back 15 rfl) (by decide) ?_
      refine kw_callv (wc := [(kModel, ad_m, _)]) (wr := []) I hA [0] [] rfl rfl (by decide) (by decide) (kn_runV (As := [.int _, .int _]) S0 hK hZ hA I ((ctX9_carriesAll (Or.inr rfl) h).met _) (kn_cwV 2 hts q7_1 q7_3 q0_79 q1_10 q7_4 rfl rfl (by decide +kernel) ⟨(Nat.le_of_ble_eq_true rfl), (Nat.le_of_ble_eq_true rfl)⟩) [0] rfl (by decide) 0 rfl rfl rfl rfl hl.1 rfl (Nat.le_of_ble_eq_true rfl) (kn_dec tX9_back 16 rfl) ⟨(Nat.le_of_ble_eq_true rfl), (Nat.le_of_ble_eq_true rfl)⟩) (fun u7 H locs h I => ?_)
      have I : kn_I D tc (kn_A _ s.heap.size) s.heap [(kModel, ad_m, _)] _ _ := I
      refine lv_aload_n hx hb (kn_dec tX9_back 17 rfl) rfl (lv_at hl 0 rfl) ?_
      refine kw_getl hx hb hts inX9 hown hK I 0 rfl rfl 1 (by decide) rfl (hts _ q4_201) (kn_dec tX9_back 18 rfl) rfl ?_
      refine lv_bipush (v := (8)) hx hb (kn_dec tX9_back 19 rfl) (by decide) ?_
      refine kw_iald hx hb hK I 0 rfl 1 12 (List.mem_of_getElem? (i := 0) rfl) (by unfold vp_in; decide) (kn_dec tX9_back 20 rfl) ?_
      exact kw_iret hx hb hr hlocks I _ rfl h (kn_dec tX9_back 21 rfl)
    · have h := h.2 c5
      refine lv_iconst (v := (-1)) hx hb (kn_dec tX9_back 11 rfl) (by decide) ?_
      exact kw_iret hx hb hr hlocks I _ rfl h (kn_dec tX9_back 12 rfl)

/-! X9_stood -/
abbrev rmX9_stood : Room := { frames := 4, cells := 0, slots := 0, locals := 85 }
def PX9_stood_L63 (v_m : OV) (s1 : Nat)  (post : Int32 → Prop) : Nat → Int32 → Int32 → Prop
  | 0, _, _ => False
  | n + 1, y3, y4 => (s1 < 30 ∧ (PJ0_length_8abf5 s1 (fun r1 => ((r1 ≤ y4 → post y3) ∧ (¬ r1 ≤ y4 → ((y3 = ((0 : Int32)) → post y3) ∧ (¬ y3 = ((0 : Int32)) → (vp_in ((v_m.1 31) + y4) 400 ∧ (s1 < 30 ∧ (PJ0_charAt_5068e s1 y4 (fun r7 => ((¬ (v_m.2.1 40 ((v_m.1 31) + y4).toNatClampNeg) = r7 → (∀ x11 : Int32, x11 = y4 + (1 : Int32) → PX9_stood_L63 v_m s1 post n ((0 : Int32)) x11)) ∧ ((v_m.2.1 40 ((v_m.1 31) + y4).toNatClampNeg) = r7 → (∀ x12 : Int32, x12 = y4 + (1 : Int32) → PX9_stood_L63 v_m s1 post n ((1 : Int32)) x12))))))))))))))
set_option maxRecDepth 100000 in
set_option maxHeartbeats 1000000 in
theorem wX9_stood_L63 {v_m : OV} {s1 : Nat}  {post : Int32 → Prop} {ad_m : Nat → Nat} (X : kn_X p s m args meth c cX9_stood 5 (some .boolean) RX9 kn_all D tc Z (kn_A w0 s.heap.size))    : ∀ n : Nat, ∀ (H : Heap) (locs : List Loc) (ls : Array Slot) (y3 : Int32) (y4 : Int32), (hz_y3 : y3 = 0 ∨ y3 = 1) → kn_I D tc (kn_A w0 s.heap.size) s.heap [(kModel, ad_m, v_m)] H locs → lv_has ls 5 [(0, .ref (ad_m 0)), (1, .ref (Z.1 s1)), (3, .int y3), (4, .int y4)] → PX9_stood_L63 v_m s1 post n y3 y4 → W p l e rmX9_stood s m args below meth c H locs 0 0 (kn_Qi D tc w0 (fun (u : Unit) => [(kModel, ad_m, v_m)]) (fun (r : Int32) (u : Unit) => (r = 0 ∨ r = 1) ∧ post r) below args s 0 0) (F0 m 63 ls []) := by
  obtain ⟨S0, hr, hlocks, hK, hZ, hA⟩ := id X
  obtain ⟨hx, hb, hml, hown, hts⟩ := id S0
  intro n
  induction n with
  | zero =>
    intro H locs ls y3 y4 hz_y3 I hl h
    unfold PX9_stood_L63 at h
    exact h.elim
  | succ n ih =>
    intro H locs ls y3 y4 hz_y3 I hl h
    unfold PX9_stood_L63 at h
    refine lv_iload hx hb (kn_dec tX9_stood 34 rfl) (lv_at hl 3 rfl) ?_
    refine lv_aload_n hx hb (kn_dec tX9_stood 35 rfl) rfl (lv_at hl 1 rfl) ?_
    obtain ⟨hs2, h⟩ := h
    refine kw_calli (wc := []) (wr := [(kModel, ad_m, _)]) I hA [] [0] rfl rfl (by decide) (by decide) (kn_runVR (As := []) S0 hK hZ hA I ((ctJ0_length_8abf5 h).met _) (kn_cwV 0 hts q5_212 q2_183 q2_184 q1_12 q2_185 rfl rfl (by decide +kernel) ⟨(Nat.le_of_ble_eq_true rfl), (Nat.le_of_ble_eq_true rfl)⟩) [] rfl (by decide) (vk_recv (kn_zs hZ hs2) (i := 0) (by decide) I.2.2) rfl hl.1 rfl (Nat.le_of_ble_eq_true rfl) (kn_dec tX9_stood 36 rfl) ⟨(Nat.le_of_ble_eq_true rfl), (Nat.le_of_ble_eq_true rfl)⟩) (fun r1 u3 H locs h I => ?_)
    have I : kn_I D tc (kn_A w0 s.heap.size) s.heap [(kModel, ad_m, _)] _ _ := I
    refine lv_icmp_ge (tgt := 109) hx hb (kn_dec tX9_stood 37 rfl) (by decide) (fun c4 => ?_) (fun c4 => ?_)
    · have h := h.1 c4
      refine lv_iload_n hx hb (kn_dec tX9_stood 57 rfl) rfl (lv_at hl 2 rfl) ?_
      exact kw_zret hx hb hr (kn_nz hz_y3) hlocks I () rfl ⟨hz_y3, h⟩ (kn_dec tX9_stood 58 rfl)
    · have h := h.2 c4
      refine lv_iload_n hx hb (kn_dec tX9_stood 38 rfl) rfl (lv_at hl 2 rfl) ?_
      refine lv_if_eq (tgt := 109) hx hb (kn_dec tX9_stood 39 rfl) (by decide) (fun c5 => ?_) (fun c5 => ?_)
      · have h := h.1 c5
        refine lv_iload_n hx hb (kn_dec tX9_stood 57 rfl) rfl (lv_at hl 2 rfl) ?_
        exact kw_zret hx hb hr (kn_nz hz_y3) hlocks I () rfl ⟨hz_y3, h⟩ (kn_dec tX9_stood 58 rfl)
      · have h := h.2 c5
        refine lv_aload_n hx hb (kn_dec tX9_stood 40 rfl) rfl (lv_at hl 0 rfl) ?_
        refine kw_getl hx hb hts inX9 hown hK I 0 rfl rfl 40 (by decide) rfl (hts _ q5_0) (kn_dec tX9_stood 41 rfl) rfl ?_
        refine lv_aload_n hx hb (kn_dec tX9_stood 42 rfl) rfl (lv_at hl 0 rfl) ?_
        refine kw_geti hx hb hts inX9 hown hK I 0 rfl rfl 31 (by decide) rfl (hts _ q4_231) (kn_dec tX9_stood 43 rfl) ?_
        refine lv_iload hx hb (kn_dec tX9_stood 44 rfl) (lv_at hl 3 rfl) ?_
        refine lv_iadd hx hb (kn_dec tX9_stood 45 rfl) ?_
        obtain ⟨hs6, h⟩ := h
        refine kw_bald hx hb hK I 0 rfl 40 400 (List.mem_of_getElem? (i := 29) rfl) hs6 (kn_dec tX9_stood 46 rfl) ?_
        refine lv_aload_n hx hb (kn_dec tX9_stood 47 rfl) rfl (lv_at hl 1 rfl) ?_
        refine lv_iload hx hb (kn_dec tX9_stood 48 rfl) (lv_at hl 3 rfl) ?_
        obtain ⟨hs8, h⟩ := h
        refine kw_calli (wc := []) (wr := [(kModel, ad_m, _)]) I hA [] [0] rfl rfl (by decide) (by decide) (kn_runVR (As := [.int _]) S0 hK hZ hA I ((ctJ0_charAt_5068e h).met _) (kn_cwV 1 hts q5_213 q2_193 q2_194 q1_12 q2_195 rfl rfl (by decide +kernel) ⟨(Nat.le_of_ble_eq_true rfl), (Nat.le_of_ble_eq_true rfl)⟩) [] rfl (by decide) (vk_recv (kn_zs hZ hs8) (i := 0) (by decide) I.2.2) rfl hl.1 rfl (Nat.le_of_ble_eq_true rfl) (kn_dec tX9_stood 49 rfl) ⟨(Nat.le_of_ble_eq_true rfl), (Nat.le_of_ble_eq_true rfl)⟩) (fun r7 u9 H locs h I => ?_)
        obtain ⟨hc_r7, h⟩ := h
        have I : kn_I D tc (kn_A w0 s.heap.size) s.heap [(kModel, ad_m, _)] _ _ := I
        refine lv_icmp_ne (tgt := 101) hx hb (kn_dec tX9_stood 50 rfl) (by decide) (fun c10 => ?_) (fun c10 => ?_)
        · have h := h.1 c10
          refine lv_iconst (v := (0)) hx hb (kn_dec tX9_stood 53 rfl) (by decide) ?_
          refine lv_istore_n (lv' := [(3, .int _), (0, .ref (ad_m 0)), (1, .ref (Z.1 s1)), (4, .int _)]) hx hb (kn_dec tX9_stood 54 rfl) rfl hl (by decide) rfl (fun ls hl => ?_)
          refine kw_iinc (lvf := fun y => [(4, .int y), (3, .int _), (0, .ref (ad_m 0)), (1, .ref (Z.1 s1))]) (nv := (1)) hx hb (kn_dec tX9_stood 55 rfl) hl (k := 3) rfl (by decide) (by decide) (fun _ => rfl) (fun x11 ex11 ls hl => ?_)
          have h := h x11 ex11
          refine lv_goto (tgt := 63) hx hb (kn_dec tX9_stood 56 rfl) (by decide) ?_
          exact ih _ _ _ _ _ (Or.inl rfl) I (lv_sub hl [2, 3, 1, 0] rfl) h
        · have h := h.2 c10
          refine lv_iconst (v := (1)) hx hb (kn_dec tX9_stood 51 rfl) (by decide) ?_
          refine lv_goto (tgt := 102) hx hb (kn_dec tX9_stood 52 rfl) (by decide) ?_
          refine lv_istore_n (lv' := [(3, .int _), (0, .ref (ad_m 0)), (1, .ref (Z.1 s1)), (4, .int _)]) hx hb (kn_dec tX9_stood 54 rfl) rfl hl (by decide) rfl (fun ls hl => ?_)
          refine kw_iinc (lvf := fun y => [(4, .int y), (3, .int _), (0, .ref (ad_m 0)), (1, .ref (Z.1 s1))]) (nv := (1)) hx hb (kn_dec tX9_stood 55 rfl) hl (k := 3) rfl (by decide) (by decide) (fun _ => rfl) (fun x12 ex12 ls hl => ?_)
          have h := h x12 ex12
          refine lv_goto (tgt := 63) hx hb (kn_dec tX9_stood 56 rfl) (by decide) ?_
          exact ih _ _ _ _ _ (Or.inr rfl) I (lv_sub hl [2, 3, 1, 0] rfl) h
def PX9_stood_b41 (v_m : OV) (s1 : Nat)  (post : Int32 → Prop) (y2 : Int32) : Prop := (s1 < 30 ∧ (PJ0_length_8abf5 s1 (fun r1 => ((¬ (y2 - (v_m.1 31)) = r1 → (∃ n5 : Nat, PX9_stood_L63 v_m s1 post n5 ((0 : Int32)) ((0 : Int32)))) ∧ ((y2 - (v_m.1 31)) = r1 → (∃ n6 : Nat, PX9_stood_L63 v_m s1 post n6 ((1 : Int32)) ((0 : Int32))))))))
set_option maxRecDepth 100000 in
set_option maxHeartbeats 1000000 in
theorem wX9_stood_b41 {v_m : OV} {s1 : Nat}  {post : Int32 → Prop} {ad_m : Nat → Nat} (X : kn_X p s m args meth c cX9_stood 5 (some .boolean) RX9 kn_all D tc Z (kn_A w0 s.heap.size))    : ∀ (H : Heap) (locs : List Loc) (ls : Array Slot) (y2 : Int32), kn_I D tc (kn_A w0 s.heap.size) s.heap [(kModel, ad_m, v_m)] H locs → lv_has ls 5 [(0, .ref (ad_m 0)), (1, .ref (Z.1 s1)), (2, .int y2)] → PX9_stood_b41 v_m s1 post y2 → W p l e rmX9_stood s m args below meth c H locs 0 0 (kn_Qi D tc w0 (fun (u : Unit) => [(kModel, ad_m, v_m)]) (fun (r : Int32) (u : Unit) => (r = 0 ∨ r = 1) ∧ post r) below args s 0 0) (F0 m 41 ls []) := by
  obtain ⟨S0, hr, hlocks, hK, hZ, hA⟩ := id X
  obtain ⟨hx, hb, hml, hown, hts⟩ := id S0
  intro H locs ls y2 I hl h
  unfold PX9_stood_b41 at h
  refine lv_iload_n hx hb (kn_dec tX9_stood 21 rfl) rfl (lv_at hl 2 rfl) ?_
  refine lv_aload_n hx hb (kn_dec tX9_stood 22 rfl) rfl (lv_at hl 0 rfl) ?_
  refine kw_geti hx hb hts inX9 hown hK I 0 rfl rfl 31 (by decide) rfl (hts _ q4_231) (kn_dec tX9_stood 23 rfl) ?_
  refine lv_isub hx hb (kn_dec tX9_stood 24 rfl) ?_
  refine lv_aload_n hx hb (kn_dec tX9_stood 25 rfl) rfl (lv_at hl 1 rfl) ?_
  obtain ⟨hs2, h⟩ := h
  refine kw_calli (wc := []) (wr := [(kModel, ad_m, _)]) I hA [] [0] rfl rfl (by decide) (by decide) (kn_runVR (As := []) S0 hK hZ hA I ((ctJ0_length_8abf5 h).met _) (kn_cwV 0 hts q5_212 q2_183 q2_184 q1_12 q2_185 rfl rfl (by decide +kernel) ⟨(Nat.le_of_ble_eq_true rfl), (Nat.le_of_ble_eq_true rfl)⟩) [] rfl (by decide) (vk_recv (kn_zs hZ hs2) (i := 0) (by decide) I.2.2) rfl hl.1 rfl (Nat.le_of_ble_eq_true rfl) (kn_dec tX9_stood 26 rfl) ⟨(Nat.le_of_ble_eq_true rfl), (Nat.le_of_ble_eq_true rfl)⟩) (fun r1 u3 H locs h I => ?_)
  have I : kn_I D tc (kn_A w0 s.heap.size) s.heap [(kModel, ad_m, _)] _ _ := I
  refine lv_icmp_ne (tgt := 58) hx hb (kn_dec tX9_stood 27 rfl) (by decide) (fun c4 => ?_) (fun c4 => ?_)
  · have h := h.1 c4
    refine lv_iconst (v := (0)) hx hb (kn_dec tX9_stood 30 rfl) (by decide) ?_
    refine lv_istore_n (lv' := [(3, .int _), (0, .ref (ad_m 0)), (1, .ref (Z.1 s1)), (2, .int _)]) hx hb (kn_dec tX9_stood 31 rfl) rfl hl (by decide) rfl (fun ls hl => ?_)
    refine lv_iconst (v := (0)) hx hb (kn_dec tX9_stood 32 rfl) (by decide) ?_
    refine lv_istore (lv' := [(4, .int _), (3, .int _), (0, .ref (ad_m 0)), (1, .ref (Z.1 s1)), (2, .int _)]) hx hb (kn_dec tX9_stood 33 rfl) hl (by decide) rfl (fun ls hl => ?_)
    obtain ⟨n5, h⟩ := h
    exact wX9_stood_L63 X n5 _ _ _ _ _ (Or.inl rfl) I (lv_sub hl [2, 3, 1, 0] rfl) h
  · have h := h.2 c4
    refine lv_iconst (v := (1)) hx hb (kn_dec tX9_stood 28 rfl) (by decide) ?_
    refine lv_goto (tgt := 59) hx hb (kn_dec tX9_stood 29 rfl) (by decide) ?_
    refine lv_istore_n (lv' := [(3, .int _), (0, .ref (ad_m 0)), (1, .ref (Z.1 s1)), (2, .int _)]) hx hb (kn_dec tX9_stood 31 rfl) rfl hl (by decide) rfl (fun ls hl => ?_)
    refine lv_iconst (v := (0)) hx hb (kn_dec tX9_stood 32 rfl) (by decide) ?_
    refine lv_istore (lv' := [(4, .int _), (3, .int _), (0, .ref (ad_m 0)), (1, .ref (Z.1 s1)), (2, .int _)]) hx hb (kn_dec tX9_stood 33 rfl) hl (by decide) rfl (fun ls hl => ?_)
    obtain ⟨n6, h⟩ := h
    exact wX9_stood_L63 X n6 _ _ _ _ _ (Or.inr rfl) I (lv_sub hl [2, 3, 1, 0] rfl) h
def PX9_stood_L5 (v_m : OV) (s1 : Nat)  (post : Int32 → Prop) : Nat → Int32 → Prop
  | 0, _ => False
  | n + 1, y2 => (((v_m.1 30) ≤ y2 → PX9_stood_b41 v_m s1 post y2) ∧ (¬ (v_m.1 30) ≤ y2 → (vp_in y2 400 ∧ (((v_m.2.1 40 y2.toNatClampNeg) < ((97 : Int32)) → PX9_stood_b41 v_m s1 post y2) ∧ (¬ (v_m.2.1 40 y2.toNatClampNeg) < ((97 : Int32)) → (vp_in y2 400 ∧ ((((122 : Int32)) < (v_m.2.1 40 y2.toNatClampNeg) → PX9_stood_b41 v_m s1 post y2) ∧ (¬ ((122 : Int32)) < (v_m.2.1 40 y2.toNatClampNeg) → (∀ x6 : Int32, x6 = y2 + (1 : Int32) → PX9_stood_L5 v_m s1 post n x6)))))))))
set_option maxRecDepth 100000 in
set_option maxHeartbeats 1000000 in
theorem wX9_stood_L5 {v_m : OV} {s1 : Nat}  {post : Int32 → Prop} {ad_m : Nat → Nat} (X : kn_X p s m args meth c cX9_stood 5 (some .boolean) RX9 kn_all D tc Z (kn_A w0 s.heap.size))    : ∀ n : Nat, ∀ (H : Heap) (locs : List Loc) (ls : Array Slot) (y2 : Int32), kn_I D tc (kn_A w0 s.heap.size) s.heap [(kModel, ad_m, v_m)] H locs → lv_has ls 5 [(0, .ref (ad_m 0)), (1, .ref (Z.1 s1)), (2, .int y2)] → PX9_stood_L5 v_m s1 post n y2 → W p l e rmX9_stood s m args below meth c H locs 0 0 (kn_Qi D tc w0 (fun (u : Unit) => [(kModel, ad_m, v_m)]) (fun (r : Int32) (u : Unit) => (r = 0 ∨ r = 1) ∧ post r) below args s 0 0) (F0 m 5 ls []) := by
  obtain ⟨S0, hr, hlocks, hK, hZ, hA⟩ := id X
  obtain ⟨hx, hb, hml, hown, hts⟩ := id S0
  intro n
  induction n with
  | zero =>
    intro H locs ls y2 I hl h
    unfold PX9_stood_L5 at h
    exact h.elim
  | succ n ih =>
    intro H locs ls y2 I hl h
    unfold PX9_stood_L5 at h
    refine lv_iload_n hx hb (kn_dec tX9_stood 3 rfl) rfl (lv_at hl 2 rfl) ?_
    refine lv_aload_n hx hb (kn_dec tX9_stood 4 rfl) rfl (lv_at hl 0 rfl) ?_
    refine kw_geti hx hb hts inX9 hown hK I 0 rfl rfl 30 (by decide) rfl (hts _ q4_230) (kn_dec tX9_stood 5 rfl) ?_
    refine lv_icmp_ge (tgt := 41) hx hb (kn_dec tX9_stood 6 rfl) (by decide) (fun c1 => ?_) (fun c1 => ?_)
    · have h := h.1 c1
      exact wX9_stood_b41 X _ _ _ _  I (lv_sub hl [0, 1, 2] rfl) h
    · have h := h.2 c1
      refine lv_aload_n hx hb (kn_dec tX9_stood 7 rfl) rfl (lv_at hl 0 rfl) ?_
      refine kw_getl hx hb hts inX9 hown hK I 0 rfl rfl 40 (by decide) rfl (hts _ q5_0) (kn_dec tX9_stood 8 rfl) rfl ?_
      refine lv_iload_n hx hb (kn_dec tX9_stood 9 rfl) rfl (lv_at hl 2 rfl) ?_
      obtain ⟨hs2, h⟩ := h
      refine kw_bald hx hb hK I 0 rfl 40 400 (List.mem_of_getElem? (i := 29) rfl) hs2 (kn_dec tX9_stood 10 rfl) ?_
      refine lv_bipush (v := (97)) hx hb (kn_dec tX9_stood 11 rfl) (by decide) ?_
      refine lv_icmp_lt (tgt := 41) hx hb (kn_dec tX9_stood 12 rfl) (by decide) (fun c3 => ?_) (fun c3 => ?_)
      · have h := h.1 c3
        exact wX9_stood_b41 X _ _ _ _  I (lv_sub hl [0, 1, 2] rfl) h
      · have h := h.2 c3
        refine lv_aload_n hx hb (kn_dec tX9_stood 13 rfl) rfl (lv_at hl 0 rfl) ?_
        refine kw_getl hx hb hts inX9 hown hK I 0 rfl rfl 40 (by decide) rfl (hts _ q5_0) (kn_dec tX9_stood 14 rfl) rfl ?_
        refine lv_iload_n hx hb (kn_dec tX9_stood 15 rfl) rfl (lv_at hl 2 rfl) ?_
        obtain ⟨hs4, h⟩ := h
        refine kw_bald hx hb hK I 0 rfl 40 400 (List.mem_of_getElem? (i := 29) rfl) hs4 (kn_dec tX9_stood 16 rfl) ?_
        refine lv_bipush (v := (122)) hx hb (kn_dec tX9_stood 17 rfl) (by decide) ?_
        refine lv_icmp_gt (tgt := 41) hx hb (kn_dec tX9_stood 18 rfl) (by decide) (fun c5 => ?_) (fun c5 => ?_)
        · have h := h.1 c5
          exact wX9_stood_b41 X _ _ _ _  I (lv_sub hl [0, 1, 2] rfl) h
        · have h := h.2 c5
          refine kw_iinc (lvf := fun y => [(2, .int y), (0, .ref (ad_m 0)), (1, .ref (Z.1 s1))]) (nv := (1)) hx hb (kn_dec tX9_stood 19 rfl) hl (k := 2) rfl (by decide) (by decide) (fun _ => rfl) (fun x6 ex6 ls hl => ?_)
          have h := h x6 ex6
          refine lv_goto (tgt := 5) hx hb (kn_dec tX9_stood 20 rfl) (by decide) ?_
          exact ih _ _ _ _  I (lv_sub hl [1, 2, 0] rfl) h
def PX9_stood  (v_m : OV) (s1 : Nat) (post : Int32 → Prop) : Prop := (∀ x1 : Int32, x1 = (v_m.1 31) → (∃ n2 : Nat, PX9_stood_L5 v_m s1 post n2 x1))
set_option maxRecDepth 100000 in
set_option maxHeartbeats 1000000 in
theorem ctX9_stood {l : Launch} {D : va_G} {tc : Nat → ClassId} {Z : (Nat → Nat) × (Nat → Nat)}  {ad_m : Nat → Nat} {v_m : OV} {s1 : Nat}    {post : Int32 → Prop} (h : PX9_stood  v_m s1 post) : CTi l D tc Z yX9_stood (Cond.code yX9_stood cX9_stood 5 (some .boolean) :: kn_all) rmX9_stood 0 0 [.ref (ad_m 0), .ref (Z.1 s1)] [(kModel, ad_m, v_m)] (fun (u : Unit) => [(kModel, ad_m, v_m)]) (fun (r : Int32) (u : Unit) => (r = 0 ∨ r = 1) ∧ post r) := by
  refine kn_ofi (cc := cX9_stood) (nL := 5) (ret := (some .boolean)) (lv := [(0, .ref (ad_m 0)), (1, .ref (Z.1 s1))]) (by decide) (Nat.le_of_ble_eq_true rfl) rfl (fun p e s m below meth c ls X I hl _ => ?_)
  obtain ⟨S0, hr, hlocks, hK, hZ, hA⟩ := id X
  obtain ⟨hx, hb, hml, hown, hts⟩ := id S0
  unfold PX9_stood at h
  refine lv_aload_n hx hb (kn_dec tX9_stood 0 rfl) rfl (lv_at hl 0 rfl) ?_
  refine kw_geti hx hb hts inX9 hown hK I 0 rfl rfl 31 (by decide) rfl (hts _ q4_231) (kn_dec tX9_stood 1 rfl) ?_
  refine lv_topi (fun x1 ex1 => ?_)
  have h := h x1 ex1
  refine lv_istore_n (lv' := [(2, .int _), (0, .ref (ad_m 0)), (1, .ref (Z.1 s1))]) hx hb (kn_dec tX9_stood 2 rfl) rfl hl (by decide) rfl (fun ls hl => ?_)
  obtain ⟨n2, h⟩ := h
  exact wX9_stood_L5 X n2 _ _ _ _  I (lv_sub hl [1, 2, 0] rfl) h

/-! X9_takes -/
abbrev rmX9_takes : Room := { frames := 5, cells := 0, slots := 0, locals := 109 }
def PX9_takes  (v_m : OV) (s1 : Nat) (post : Int32 → OV → Prop) : Prop := (PX9_blanks v_m (fun v_m1 => (PX9_stood v_m1 s1 (fun r3 => ((r3 = ((0 : Int32)) → (∀ x6 : Int32, x6 = ((v_m1.1 31) + ((0 : Int32))) → (∀ v_m7 : OV, v_m7 = si v_m1 31 x6 → post r3 v_m7))) ∧ (¬ r3 = ((0 : Int32)) → (s1 < 30 ∧ (PJ0_length_8abf5 s1 (fun r8 => (∀ x11 : Int32, x11 = ((v_m1.1 31) + r8) → (∀ v_m12 : OV, v_m12 = si v_m1 31 x11 → post r3 v_m12)))))))))))
set_option maxRecDepth 100000 in
set_option maxHeartbeats 1000000 in
theorem ctX9_takes {l : Launch} {D : va_G} {tc : Nat → ClassId} {Z : (Nat → Nat) × (Nat → Nat)}  {ad_m : Nat → Nat} {v_m : OV} {s1 : Nat}    {post : Int32 → OV → Prop} (h : PX9_takes  v_m s1 post) : CTi l D tc Z yX9_takes (Cond.code yX9_takes cX9_takes 3 (some .boolean) :: kn_all) rmX9_takes 0 0 [.ref (ad_m 0), .ref (Z.1 s1)] [(kModel, ad_m, v_m)] (fun (u : OV) => [(kModel, ad_m, u)]) (fun (r : Int32) (u : OV) => (r = 0 ∨ r = 1) ∧ post r u) := by
  refine kn_ofi (cc := cX9_takes) (nL := 3) (ret := (some .boolean)) (lv := [(0, .ref (ad_m 0)), (1, .ref (Z.1 s1))]) (by decide) (Nat.le_of_ble_eq_true rfl) rfl (fun p e s m below meth c ls X I hl _ => ?_)
  obtain ⟨S0, hr, hlocks, hK, hZ, hA⟩ := id X
  obtain ⟨hx, hb, hml, hown, hts⟩ := id S0
  unfold PX9_takes at h
  refine lv_aload_n hx hb (kn_dec tX9_takes 0 rfl) rfl (lv_at hl 0 rfl) ?_
  refine kw_callv (wc := [(kModel, ad_m, _)]) (wr := []) I hA [0] [] rfl rfl (by decide) (by decide) (kn_runV (As := []) S0 hK hZ hA I ((ctX9_blanks h).met _) (kn_cwV 0 hts q5_191 q5_193 q0_33 q1_10 q5_194 rfl rfl (by decide +kernel) ⟨(Nat.le_of_ble_eq_true rfl), (Nat.le_of_ble_eq_true rfl)⟩) [0] rfl (by decide) 0 rfl rfl rfl rfl hl.1 rfl (Nat.le_of_ble_eq_true rfl) (kn_dec tX9_takes 1 rfl) ⟨(Nat.le_of_ble_eq_true rfl), (Nat.le_of_ble_eq_true rfl)⟩) (fun u2 H locs h I => ?_)
  have I : kn_I D tc (kn_A _ s.heap.size) s.heap [(kModel, ad_m, _)] _ _ := I
  refine lv_aload_n hx hb (kn_dec tX9_takes 2 rfl) rfl (lv_at hl 0 rfl) ?_
  refine lv_aload_n hx hb (kn_dec tX9_takes 3 rfl) rfl (lv_at hl 1 rfl) ?_
  refine kw_calli (wc := [(kModel, ad_m, _)]) (wr := []) I hA [0] [] rfl rfl (by decide) (by decide) (kn_runV (As := [.ref (Z.1 s1)]) S0 hK hZ hA I ((ctX9_stood h).met _) (kn_cwV 1 hts q5_208 q5_210 q0_35 q1_10 q5_211 rfl rfl (by decide +kernel) ⟨(Nat.le_of_ble_eq_true rfl), (Nat.le_of_ble_eq_true rfl)⟩) [0] rfl (by decide) 0 rfl rfl rfl rfl hl.1 rfl (Nat.le_of_ble_eq_true rfl) (kn_dec tX9_takes 4 rfl) ⟨(Nat.le_of_ble_eq_true rfl), (Nat.le_of_ble_eq_true rfl)⟩) (fun r3 u4 H locs h I => ?_)
  obtain ⟨hz_r3, h⟩ := h
  have I : kn_I D tc (kn_A _ s.heap.size) s.heap [(kModel, ad_m, _)] _ _ := I
  refine lv_istore_n (lv' := [(2, .int _), (0, .ref (ad_m 0)), (1, .ref (Z.1 s1))]) hx hb (kn_dec tX9_takes 5 rfl) rfl hl (by decide) rfl (fun ls hl => ?_)
  refine lv_aload_n hx hb (kn_dec tX9_takes 6 rfl) rfl (lv_at hl 1 rfl) ?_
  refine lv_dup hx hb (kn_dec tX9_takes 7 rfl) rfl ?_
  refine kw_geti hx hb hts inX9 hown hK I 0 rfl rfl 31 (by decide) rfl (hts _ q4_231) (kn_dec tX9_takes 8 rfl) ?_
  refine lv_iload_n hx hb (kn_dec tX9_takes 9 rfl) rfl (lv_at hl 0 rfl) ?_
  refine lv_if_eq (tgt := 26) hx hb (kn_dec tX9_takes 10 rfl) (by decide) (fun c5 => ?_) (fun c5 => ?_)
  · have h := h.1 c5
    refine lv_iconst (v := (0)) hx hb (kn_dec tX9_takes 14 rfl) (by decide) ?_
    refine lv_iadd hx hb (kn_dec tX9_takes 15 rfl) ?_
    refine lv_topi (fun x6 ex6 => ?_)
    have h := h x6 ex6
    refine kw_puti hx hb hts inX9 tyX9 tyX9_ok nmX9 hown hK I 0 rfl rfl 31 (by decide) rfl (hts _ q4_231) rfl rfl rfl (kn_dec tX9_takes 16 rfl) (fun v_m7 ev_m7 H locs I => ?_)
    have h := h v_m7 ev_m7
    have I : kn_I D tc (kn_A _ s.heap.size) s.heap [(kModel, ad_m, _)] _ _ := I
    refine lv_iload_n hx hb (kn_dec tX9_takes 17 rfl) rfl (lv_at hl 0 rfl) ?_
    exact kw_zret hx hb hr (kn_nz hz_r3) hlocks I _ rfl ⟨hz_r3, h⟩ (kn_dec tX9_takes 18 rfl)
  · have h := h.2 c5
    refine lv_aload_n hx hb (kn_dec tX9_takes 11 rfl) rfl (lv_at hl 2 rfl) ?_
    obtain ⟨hs9, h⟩ := h
    refine kw_calli (wc := []) (wr := [(kModel, ad_m, _)]) I hA [] [0] rfl rfl (by decide) (by decide) (kn_runVR (As := []) S0 hK hZ hA I ((ctJ0_length_8abf5 h).met _) (kn_cwV 0 hts q5_212 q2_183 q2_184 q1_12 q2_185 rfl rfl (by decide +kernel) ⟨(Nat.le_of_ble_eq_true rfl), (Nat.le_of_ble_eq_true rfl)⟩) [] rfl (by decide) (vk_recv (kn_zs hZ hs9) (i := 0) (by decide) I.2.2) rfl hl.1 rfl (Nat.le_of_ble_eq_true rfl) (kn_dec tX9_takes 12 rfl) ⟨(Nat.le_of_ble_eq_true rfl), (Nat.le_of_ble_eq_true rfl)⟩) (fun r8 u10 H locs h I => ?_)
    have I : kn_I D tc (kn_A _ s.heap.size) s.heap [(kModel, ad_m, _)] _ _ := I
    refine lv_goto (tgt := 27) hx hb (kn_dec tX9_takes 13 rfl) (by decide) ?_
    refine lv_iadd hx hb (kn_dec tX9_takes 15 rfl) ?_
    refine lv_topi (fun x11 ex11 => ?_)
    have h := h x11 ex11
    refine kw_puti hx hb hts inX9 tyX9 tyX9_ok nmX9 hown hK I 0 rfl rfl 31 (by decide) rfl (hts _ q4_231) rfl rfl rfl (kn_dec tX9_takes 16 rfl) (fun v_m12 ev_m12 H locs I => ?_)
    have h := h v_m12 ev_m12
    have I : kn_I D tc (kn_A _ s.heap.size) s.heap [(kModel, ad_m, _)] _ _ := I
    refine lv_iload_n hx hb (kn_dec tX9_takes 17 rfl) rfl (lv_at hl 0 rfl) ?_
    exact kw_zret hx hb hr (kn_nz hz_r3) hlocks I _ rfl ⟨hz_r3, h⟩ (kn_dec tX9_takes 18 rfl)

/-! X9_wordOf -/
abbrev rmX9_wordOf : Room := { frames := 0, cells := 0, slots := 0, locals := 0 }
def PX9_wordOf  (a0 : Int32) (post : Nat → Prop) : Prop := ((a0 = (0 : Int32) → post 7) ∧ (¬ a0 = (0 : Int32) → ((a0 = (1 : Int32) → post 8) ∧ (¬ a0 = (1 : Int32) → ((a0 = (2 : Int32) → post 9) ∧ (¬ a0 = (2 : Int32) → ((a0 = (3 : Int32) → post 10) ∧ (¬ a0 = (3 : Int32) → ((a0 = (4 : Int32) → post 11) ∧ (¬ a0 = (4 : Int32) → ((a0 = (5 : Int32) → post 12) ∧ (¬ a0 = (5 : Int32) → ((a0 = (6 : Int32) → post 13) ∧ (¬ a0 = (6 : Int32) → ((a0 = (7 : Int32) → post 14) ∧ (¬ a0 = (7 : Int32) → ((a0 = (8 : Int32) → post 15) ∧ (¬ a0 = (8 : Int32) → ((a0 = (9 : Int32) → post 16) ∧ (¬ a0 = (9 : Int32) → ((a0 = (10 : Int32) → post 17) ∧ (¬ a0 = (10 : Int32) → ((a0 = (11 : Int32) → post 18) ∧ (¬ a0 = (11 : Int32) → ((a0 = (12 : Int32) → post 19) ∧ (¬ a0 = (12 : Int32) → post 20))))))))))))))))))))))))))
set_option maxRecDepth 100000 in
set_option maxHeartbeats 1000000 in
theorem ctX9_wordOf {l : Launch} {D : va_G} {tc : Nat → ClassId} {Z : (Nat → Nat) × (Nat → Nat)}   {a0 : Int32}    {post : Nat → Prop} (h : PX9_wordOf  a0 post) : CTq l D tc Z yX9_wordOf (Cond.code yX9_wordOf cX9_wordOf 1 (some (.object "java/lang/String")) :: kn_all) rmX9_wordOf 0 0 [.int a0] [] (fun (u : Unit) => []) (fun (r : Option Nat) (u : Unit) => ∃ i : Nat, i < 30 ∧ r = some (Z.1 i) ∧ post i) := by
  refine kn_ofq (cc := cX9_wordOf) (nL := 1) (ret := (some (.object "java/lang/String"))) (lv := [(0, .int a0)]) (by decide) (Nat.le_of_ble_eq_true rfl) rfl (fun p e s m below meth c ls X I hl _ => ?_)
  obtain ⟨S0, hr, hlocks, hK, hZ, hA⟩ := id X
  obtain ⟨hx, hb, hml, hown, hts⟩ := id S0
  unfold PX9_wordOf at h
  refine lv_iload_n hx hb (kn_dec tX9_wordOf 0 rfl) rfl (lv_at hl 0 rfl) ?_
  rcases Classical.em (a0 = (0 : Int32)) with c1 | c1
  · have h := h.1 c1
    refine lv_tableIn (off := 67) (tgt := 68) hx hb (kn_dec tX9_wordOf 1 rfl) (by rw [c1]; decide) (by rw [c1]; decide) (by rw [c1]; rfl) (by decide) ?_
    refine va_ldcS hx hb hown (hZ.1 7 _ rfl).1 (kn_dec tX9_wordOf 2 rfl) ?_
    exact kw_aret (r := some (Z.1 7)) hx hb hr (Or.inl ⟨_, rfl⟩) hlocks I () rfl rfl ⟨7, by decide, rfl, h⟩ (kn_dec tX9_wordOf 3 rfl)
  · have h := h.2 c1
    rcases Classical.em (a0 = (1 : Int32)) with c2 | c2
    · have h := h.1 c2
      refine lv_tableIn (off := 70) (tgt := 71) hx hb (kn_dec tX9_wordOf 1 rfl) (by rw [c2]; decide) (by rw [c2]; decide) (by rw [c2]; rfl) (by decide) ?_
      refine va_ldcS hx hb hown (hZ.1 8 _ rfl).1 (kn_dec tX9_wordOf 4 rfl) ?_
      exact kw_aret (r := some (Z.1 8)) hx hb hr (Or.inl ⟨_, rfl⟩) hlocks I () rfl rfl ⟨8, by decide, rfl, h⟩ (kn_dec tX9_wordOf 5 rfl)
    · have h := h.2 c2
      rcases Classical.em (a0 = (2 : Int32)) with c3 | c3
      · have h := h.1 c3
        refine lv_tableIn (off := 73) (tgt := 74) hx hb (kn_dec tX9_wordOf 1 rfl) (by rw [c3]; decide) (by rw [c3]; decide) (by rw [c3]; rfl) (by decide) ?_
        refine va_ldcS hx hb hown (hZ.1 9 _ rfl).1 (kn_dec tX9_wordOf 6 rfl) ?_
        exact kw_aret (r := some (Z.1 9)) hx hb hr (Or.inl ⟨_, rfl⟩) hlocks I () rfl rfl ⟨9, by decide, rfl, h⟩ (kn_dec tX9_wordOf 7 rfl)
      · have h := h.2 c3
        rcases Classical.em (a0 = (3 : Int32)) with c4 | c4
        · have h := h.1 c4
          refine lv_tableIn (off := 76) (tgt := 77) hx hb (kn_dec tX9_wordOf 1 rfl) (by rw [c4]; decide) (by rw [c4]; decide) (by rw [c4]; rfl) (by decide) ?_
          refine va_ldcS hx hb hown (hZ.1 10 _ rfl).1 (kn_dec tX9_wordOf 8 rfl) ?_
          exact kw_aret (r := some (Z.1 10)) hx hb hr (Or.inl ⟨_, rfl⟩) hlocks I () rfl rfl ⟨10, by decide, rfl, h⟩ (kn_dec tX9_wordOf 9 rfl)
        · have h := h.2 c4
          rcases Classical.em (a0 = (4 : Int32)) with c5 | c5
          · have h := h.1 c5
            refine lv_tableIn (off := 79) (tgt := 80) hx hb (kn_dec tX9_wordOf 1 rfl) (by rw [c5]; decide) (by rw [c5]; decide) (by rw [c5]; rfl) (by decide) ?_
            refine va_ldcS hx hb hown (hZ.1 11 _ rfl).1 (kn_dec tX9_wordOf 10 rfl) ?_
            exact kw_aret (r := some (Z.1 11)) hx hb hr (Or.inl ⟨_, rfl⟩) hlocks I () rfl rfl ⟨11, by decide, rfl, h⟩ (kn_dec tX9_wordOf 11 rfl)
          · have h := h.2 c5
            rcases Classical.em (a0 = (5 : Int32)) with c6 | c6
            · have h := h.1 c6
              refine lv_tableIn (off := 82) (tgt := 83) hx hb (kn_dec tX9_wordOf 1 rfl) (by rw [c6]; decide) (by rw [c6]; decide) (by rw [c6]; rfl) (by decide) ?_
              refine va_ldcS hx hb hown (hZ.1 12 _ rfl).1 (kn_dec tX9_wordOf 12 rfl) ?_
              exact kw_aret (r := some (Z.1 12)) hx hb hr (Or.inl ⟨_, rfl⟩) hlocks I () rfl rfl ⟨12, by decide, rfl, h⟩ (kn_dec tX9_wordOf 13 rfl)
            · have h := h.2 c6
              rcases Classical.em (a0 = (6 : Int32)) with c7 | c7
              · have h := h.1 c7
                refine lv_tableIn (off := 85) (tgt := 86) hx hb (kn_dec tX9_wordOf 1 rfl) (by rw [c7]; decide) (by rw [c7]; decide) (by rw [c7]; rfl) (by decide) ?_
                refine va_ldcS hx hb hown (hZ.1 13 _ rfl).1 (kn_dec tX9_wordOf 14 rfl) ?_
                exact kw_aret (r := some (Z.1 13)) hx hb hr (Or.inl ⟨_, rfl⟩) hlocks I () rfl rfl ⟨13, by decide, rfl, h⟩ (kn_dec tX9_wordOf 15 rfl)
              · have h := h.2 c7
                rcases Classical.em (a0 = (7 : Int32)) with c8 | c8
                · have h := h.1 c8
                  refine lv_tableIn (off := 88) (tgt := 89) hx hb (kn_dec tX9_wordOf 1 rfl) (by rw [c8]; decide) (by rw [c8]; decide) (by rw [c8]; rfl) (by decide) ?_
                  refine va_ldcS hx hb hown (hZ.1 14 _ rfl).1 (kn_dec tX9_wordOf 16 rfl) ?_
                  exact kw_aret (r := some (Z.1 14)) hx hb hr (Or.inl ⟨_, rfl⟩) hlocks I () rfl rfl ⟨14, by decide, rfl, h⟩ (kn_dec tX9_wordOf 17 rfl)
                · have h := h.2 c8
                  rcases Classical.em (a0 = (8 : Int32)) with c9 | c9
                  · have h := h.1 c9
                    refine lv_tableIn (off := 91) (tgt := 92) hx hb (kn_dec tX9_wordOf 1 rfl) (by rw [c9]; decide) (by rw [c9]; decide) (by rw [c9]; rfl) (by decide) ?_
                    refine va_ldcS hx hb hown (hZ.1 15 _ rfl).1 (kn_dec tX9_wordOf 18 rfl) ?_
                    exact kw_aret (r := some (Z.1 15)) hx hb hr (Or.inl ⟨_, rfl⟩) hlocks I () rfl rfl ⟨15, by decide, rfl, h⟩ (kn_dec tX9_wordOf 19 rfl)
                  · have h := h.2 c9
                    rcases Classical.em (a0 = (9 : Int32)) with c10 | c10
                    · have h := h.1 c10
                      refine lv_tableIn (off := 94) (tgt := 95) hx hb (kn_dec tX9_wordOf 1 rfl) (by rw [c10]; decide) (by rw [c10]; decide) (by rw [c10]; rfl) (by decide) ?_
                      refine va_ldcS hx hb hown (hZ.1 16 _ rfl).1 (kn_dec tX9_wordOf 20 rfl) ?_
                      exact kw_aret (r := some (Z.1 16)) hx hb hr (Or.inl ⟨_, rfl⟩) hlocks I () rfl rfl ⟨16, by decide, rfl, h⟩ (kn_dec tX9_wordOf 21 rfl)
                    · have h := h.2 c10
                      rcases Classical.em (a0 = (10 : Int32)) with c11 | c11
                      · have h := h.1 c11
                        refine lv_tableIn (off := 97) (tgt := 98) hx hb (kn_dec tX9_wordOf 1 rfl) (by rw [c11]; decide) (by rw [c11]; decide) (by rw [c11]; rfl) (by decide) ?_
                        refine va_ldcS hx hb hown (hZ.1 17 _ rfl).1 (kn_dec tX9_wordOf 22 rfl) ?_
                        exact kw_aret (r := some (Z.1 17)) hx hb hr (Or.inl ⟨_, rfl⟩) hlocks I () rfl rfl ⟨17, by decide, rfl, h⟩ (kn_dec tX9_wordOf 23 rfl)
                      · have h := h.2 c11
                        rcases Classical.em (a0 = (11 : Int32)) with c12 | c12
                        · have h := h.1 c12
                          refine lv_tableIn (off := 100) (tgt := 101) hx hb (kn_dec tX9_wordOf 1 rfl) (by rw [c12]; decide) (by rw [c12]; decide) (by rw [c12]; rfl) (by decide) ?_
                          refine va_ldcS hx hb hown (hZ.1 18 _ rfl).1 (kn_dec tX9_wordOf 24 rfl) ?_
                          exact kw_aret (r := some (Z.1 18)) hx hb hr (Or.inl ⟨_, rfl⟩) hlocks I () rfl rfl ⟨18, by decide, rfl, h⟩ (kn_dec tX9_wordOf 25 rfl)
                        · have h := h.2 c12
                          rcases Classical.em (a0 = (12 : Int32)) with c13 | c13
                          · have h := h.1 c13
                            refine lv_tableIn (off := 103) (tgt := 104) hx hb (kn_dec tX9_wordOf 1 rfl) (by rw [c13]; decide) (by rw [c13]; decide) (by rw [c13]; rfl) (by decide) ?_
                            refine va_ldcS hx hb hown (hZ.1 19 _ rfl).1 (kn_dec tX9_wordOf 26 rfl) ?_
                            exact kw_aret (r := some (Z.1 19)) hx hb hr (Or.inl ⟨_, rfl⟩) hlocks I () rfl rfl ⟨19, by decide, rfl, h⟩ (kn_dec tX9_wordOf 27 rfl)
                          · have h := h.2 c13
                            refine lv_tableOut (tgt := 107) hx hb (kn_dec tX9_wordOf 1 rfl) (by have z0 := kn_nei (k := 0) c1 (by decide); have z1 := kn_nei (k := 1) c2 (by decide); have z2 := kn_nei (k := 2) c3 (by decide); have z3 := kn_nei (k := 3) c4 (by decide); have z4 := kn_nei (k := 4) c5 (by decide); have z5 := kn_nei (k := 5) c6 (by decide); have z6 := kn_nei (k := 6) c7 (by decide); have z7 := kn_nei (k := 7) c8 (by decide); have z8 := kn_nei (k := 8) c9 (by decide); have z9 := kn_nei (k := 9) c10 (by decide); have z10 := kn_nei (k := 10) c11 (by decide); have z11 := kn_nei (k := 11) c12 (by decide); have z12 := kn_nei (k := 12) c13 (by decide); omega) (by decide) ?_
                            refine va_ldcS hx hb hown (hZ.1 20 _ rfl).1 (kn_dec tX9_wordOf 28 rfl) ?_
                            exact kw_aret (r := some (Z.1 20)) hx hb hr (Or.inl ⟨_, rfl⟩) hlocks I () rfl rfl ⟨20, by decide, rfl, h⟩ (kn_dec tX9_wordOf 29 rfl)

/-! X9_hillWord -/
abbrev rmX9_hillWord : Room := { frames := 0, cells := 0, slots := 0, locals := 0 }
def PX9_hillWord  (a0 : Int32) (post : Nat → Prop) : Prop := ((a0 = (0 : Int32) → post 24) ∧ (¬ a0 = (0 : Int32) → ((a0 = (1 : Int32) → post 8) ∧ (¬ a0 = (1 : Int32) → ((a0 = (2 : Int32) → post 25) ∧ (¬ a0 = (2 : Int32) → ((a0 = (3 : Int32) → post 7) ∧ (¬ a0 = (3 : Int32) → ((a0 = (4 : Int32) → post 26) ∧ (¬ a0 = (4 : Int32) → post 27))))))))))
set_option maxRecDepth 100000 in
set_option maxHeartbeats 1000000 in
theorem ctX9_hillWord {l : Launch} {D : va_G} {tc : Nat → ClassId} {Z : (Nat → Nat) × (Nat → Nat)}   {a0 : Int32}    {post : Nat → Prop} (h : PX9_hillWord  a0 post) : CTq l D tc Z yX9_hillWord (Cond.code yX9_hillWord cX9_hillWord 1 (some (.object "java/lang/String")) :: kn_all) rmX9_hillWord 0 0 [.int a0] [] (fun (u : Unit) => []) (fun (r : Option Nat) (u : Unit) => ∃ i : Nat, i < 30 ∧ r = some (Z.1 i) ∧ post i) := by
  refine kn_ofq (cc := cX9_hillWord) (nL := 1) (ret := (some (.object "java/lang/String"))) (lv := [(0, .int a0)]) (by decide) (Nat.le_of_ble_eq_true rfl) rfl (fun p e s m below meth c ls X I hl _ => ?_)
  obtain ⟨S0, hr, hlocks, hK, hZ, hA⟩ := id X
  obtain ⟨hx, hb, hml, hown, hts⟩ := id S0
  unfold PX9_hillWord at h
  refine lv_iload_n hx hb (kn_dec tX9_hillWord 0 rfl) rfl (lv_at hl 0 rfl) ?_
  rcases Classical.em (a0 = (0 : Int32)) with c1 | c1
  · have h := h.1 c1
    refine lv_tableIn (off := 35) (tgt := 36) hx hb (kn_dec tX9_hillWord 1 rfl) (by rw [c1]; decide) (by rw [c1]; decide) (by rw [c1]; rfl) (by decide) ?_
    refine kw_ldcSw hx hb hown (hZ.1 24 _ rfl).1 (kn_dec tX9_hillWord 2 rfl) ?_
    exact kw_aret (r := some (Z.1 24)) hx hb hr (Or.inl ⟨_, rfl⟩) hlocks I () rfl rfl ⟨24, by decide, rfl, h⟩ (kn_dec tX9_hillWord 3 rfl)
  · have h := h.2 c1
    rcases Classical.em (a0 = (1 : Int32)) with c2 | c2
    · have h := h.1 c2
      refine lv_tableIn (off := 39) (tgt := 40) hx hb (kn_dec tX9_hillWord 1 rfl) (by rw [c2]; decide) (by rw [c2]; decide) (by rw [c2]; rfl) (by decide) ?_
      refine va_ldcS hx hb hown (hZ.1 8 _ rfl).1 (kn_dec tX9_hillWord 4 rfl) ?_
      exact kw_aret (r := some (Z.1 8)) hx hb hr (Or.inl ⟨_, rfl⟩) hlocks I () rfl rfl ⟨8, by decide, rfl, h⟩ (kn_dec tX9_hillWord 5 rfl)
    · have h := h.2 c2
      rcases Classical.em (a0 = (2 : Int32)) with c3 | c3
      · have h := h.1 c3
        refine lv_tableIn (off := 42) (tgt := 43) hx hb (kn_dec tX9_hillWord 1 rfl) (by rw [c3]; decide) (by rw [c3]; decide) (by rw [c3]; rfl) (by decide) ?_
        refine kw_ldcSw hx hb hown (hZ.1 25 _ rfl).1 (kn_dec tX9_hillWord 6 rfl) ?_
        exact kw_aret (r := some (Z.1 25)) hx hb hr (Or.inl ⟨_, rfl⟩) hlocks I () rfl rfl ⟨25, by decide, rfl, h⟩ (kn_dec tX9_hillWord 7 rfl)
      · have h := h.2 c3
        rcases Classical.em (a0 = (3 : Int32)) with c4 | c4
        · have h := h.1 c4
          refine lv_tableIn (off := 46) (tgt := 47) hx hb (kn_dec tX9_hillWord 1 rfl) (by rw [c4]; decide) (by rw [c4]; decide) (by rw [c4]; rfl) (by decide) ?_
          refine va_ldcS hx hb hown (hZ.1 7 _ rfl).1 (kn_dec tX9_hillWord 8 rfl) ?_
          exact kw_aret (r := some (Z.1 7)) hx hb hr (Or.inl ⟨_, rfl⟩) hlocks I () rfl rfl ⟨7, by decide, rfl, h⟩ (kn_dec tX9_hillWord 9 rfl)
        · have h := h.2 c4
          rcases Classical.em (a0 = (4 : Int32)) with c5 | c5
          · have h := h.1 c5
            refine lv_tableIn (off := 49) (tgt := 50) hx hb (kn_dec tX9_hillWord 1 rfl) (by rw [c5]; decide) (by rw [c5]; decide) (by rw [c5]; rfl) (by decide) ?_
            refine kw_ldcSw hx hb hown (hZ.1 26 _ rfl).1 (kn_dec tX9_hillWord 10 rfl) ?_
            exact kw_aret (r := some (Z.1 26)) hx hb hr (Or.inl ⟨_, rfl⟩) hlocks I () rfl rfl ⟨26, by decide, rfl, h⟩ (kn_dec tX9_hillWord 11 rfl)
          · have h := h.2 c5
            refine lv_tableOut (tgt := 54) hx hb (kn_dec tX9_hillWord 1 rfl) (by have z0 := kn_nei (k := 0) c1 (by decide); have z1 := kn_nei (k := 1) c2 (by decide); have z2 := kn_nei (k := 2) c3 (by decide); have z3 := kn_nei (k := 3) c4 (by decide); have z4 := kn_nei (k := 4) c5 (by decide); omega) (by decide) ?_
            refine kw_ldcSw hx hb hown (hZ.1 27 _ rfl).1 (kn_dec tX9_hillWord 12 rfl) ?_
            exact kw_aret (r := some (Z.1 27)) hx hb hr (Or.inl ⟨_, rfl⟩) hlocks I () rfl rfl ⟨27, by decide, rfl, h⟩ (kn_dec tX9_hillWord 13 rfl)

/-! X9_value -/
abbrev rmX9_value : Room := { frames := 5, cells := 0, slots := 0, locals := 109 }
def PX9_value_b62   (post : OV → Prop) (y1 : Int32) (y2 : Int32) (v_m : OV) : Prop := ((¬ y2 = (v_m.1 39) → (PX9_isCounted v_m y1 (fun v_m2 => (PX9_wordOf y2 (fun r4 => (PJ0_length_8abf5 r4 (fun r6 => (∀ x8 : Int32, x8 = ((v_m2.1 31) + r6) → (∀ v_m9 : OV, v_m9 = si v_m2 31 x8 → (PX9_entry v_m9 ((1 : Int32)) y2 (fun v_m10 => post v_m10))))))))))) ∧ (y2 = (v_m.1 39) → (PX9_fails v_m ((0 : Int32)) y1 (fun v_m12 => post v_m12))))
set_option maxRecDepth 100000 in
set_option maxHeartbeats 1000000 in
theorem wX9_value_b62   {post : OV → Prop} {ad_m : Nat → Nat} (X : kn_X p s m args meth c cX9_value 3 none RX9 kn_all D tc Z (kn_A w0 s.heap.size))    : ∀ (H : Heap) (locs : List Loc) (ls : Array Slot) (y1 : Int32) (y2 : Int32) (v_m : OV), kn_I D tc (kn_A w0 s.heap.size) s.heap [(kModel, ad_m, v_m)] H locs → lv_has ls 3 [(0, .ref (ad_m 0)), (1, .int y1), (2, .int y2)] → PX9_value_b62 post y1 y2 v_m → W p l e rmX9_value s m args below meth c H locs 0 0 (kn_Qv D tc w0 (fun (u : OV) => [(kModel, ad_m, u)]) (fun (u : OV) => post u) below args s 0 0) (F0 m 62 ls []) := by
  obtain ⟨S0, hr, hlocks, hK, hZ, hA⟩ := id X
  obtain ⟨hx, hb, hml, hown, hts⟩ := id S0
  intro H locs ls y1 y2 v_m I hl h
  unfold PX9_value_b62 at h
  refine lv_iload_n hx hb (kn_dec tX9_value 33 rfl) rfl (lv_at hl 2 rfl) ?_
  refine lv_aload_n hx hb (kn_dec tX9_value 34 rfl) rfl (lv_at hl 0 rfl) ?_
  refine kw_geti hx hb hts inX9 hown hK I 0 rfl rfl 39 (by decide) rfl (hts _ q4_239) (kn_dec tX9_value 35 rfl) ?_
  refine lv_icmp_ne (tgt := 77) hx hb (kn_dec tX9_value 36 rfl) (by decide) (fun c1 => ?_) (fun c1 => ?_)
  · have h := h.1 c1
    refine lv_aload_n hx hb (kn_dec tX9_value 42 rfl) rfl (lv_at hl 0 rfl) ?_
    refine lv_iload_n hx hb (kn_dec tX9_value 43 rfl) rfl (lv_at hl 1 rfl) ?_
    refine kw_callv (wc := [(kModel, ad_m, _)]) (wr := []) I hA [0] [] rfl rfl (by decide) (by decide) (kn_runV (As := [.int _]) S0 hK hZ hA I ((ctX9_isCounted h).met _) (kn_cwV 1 hts q6_40 q6_42 q0_49 q1_10 q6_43 rfl rfl (by decide +kernel) ⟨(Nat.le_of_ble_eq_true rfl), (Nat.le_of_ble_eq_true rfl)⟩) [0] rfl (by decide) 0 rfl rfl rfl rfl hl.1 rfl (Nat.le_of_ble_eq_true rfl) (kn_dec tX9_value 44 rfl) ⟨(Nat.le_of_ble_eq_true rfl), (Nat.le_of_ble_eq_true rfl)⟩) (fun u3 H locs h I => ?_)
    have I : kn_I D tc (kn_A w0 s.heap.size) s.heap [(kModel, ad_m, _)] _ _ := I
    refine lv_aload_n hx hb (kn_dec tX9_value 45 rfl) rfl (lv_at hl 0 rfl) ?_
    refine lv_dup hx hb (kn_dec tX9_value 46 rfl) rfl ?_
    refine kw_geti hx hb hts inX9 hown hK I 0 rfl rfl 31 (by decide) rfl (hts _ q4_231) (kn_dec tX9_value 47 rfl) ?_
    refine lv_iload_n hx hb (kn_dec tX9_value 48 rfl) rfl (lv_at hl 2 rfl) ?_
    have I : kn_I D tc (kn_A w0 s.heap.size) s.heap ([] ++ (List.flatten [[(kModel, ad_m, _)]])) _ _ := I.perm (kn_segA (segs := [[(kModel, ad_m, _)]]) (sC := []) (sR := [[(kModel, ad_m, _)]]) [0] rfl rfl)
    refine kw_callq (wc := []) (wr := (List.flatten [[(kModel, ad_m, _)]])) I hA (kn_pl1 _ _) (kn_pl2 _ _) (kn_pl1_ok _ _) (kn_pl2_ok _ _) (kn_pl2_nd _ _) (kn_pl_dis _ _) (kn_runS (As := [.int _]) S0 hK hZ hA I ((ctX9_wordOf h).met _) (kn_cwS 1 hts q6_48 q6_49 q1_10 q6_50 rfl rfl (by decide +kernel) ⟨(Nat.le_of_ble_eq_true rfl), (Nat.le_of_ble_eq_true rfl)⟩) (kn_pl1 _ _) (kn_pl1_ok _ _) (kn_pl1_nd _ _) rfl hl.1 rfl (Nat.le_of_ble_eq_true rfl) (kn_dec tX9_value 49 rfl) ⟨(Nat.le_of_ble_eq_true rfl), (Nat.le_of_ble_eq_true rfl)⟩) (fun r4 u5 H locs h I => ?_)
    obtain ⟨r4, hi_r4, rfl, h⟩ := h
    have I : kn_I D tc (kn_A w0 s.heap.size) s.heap (List.flatten [[(kModel, ad_m, _)]]) _ _ := I.perm (kn_segB (sC := [[(kModel, ad_m, _)]]) (sR := []) (segs := [[(kModel, ad_m, _)]]) [0] rfl rfl)
    have I : kn_I D tc (kn_A w0 s.heap.size) s.heap [(kModel, ad_m, _)] _ _ := I
    refine kw_calli (wc := []) (wr := [(kModel, ad_m, _)]) I hA [] [0] rfl rfl (by decide) (by decide) (kn_runVR (As := []) S0 hK hZ hA I ((ctJ0_length_8abf5 h).met _) (kn_cwV 0 hts q5_212 q2_183 q2_184 q1_12 q2_185 rfl rfl (by decide +kernel) ⟨(Nat.le_of_ble_eq_true rfl), (Nat.le_of_ble_eq_true rfl)⟩) [] rfl (by decide) (vk_recv (kn_zs hZ hi_r4) (i := 0) (by decide) I.2.2) rfl hl.1 rfl (Nat.le_of_ble_eq_true rfl) (kn_dec tX9_value 50 rfl) ⟨(Nat.le_of_ble_eq_true rfl), (Nat.le_of_ble_eq_true rfl)⟩) (fun r6 u7 H locs h I => ?_)
    have I : kn_I D tc (kn_A w0 s.heap.size) s.heap [(kModel, ad_m, _)] _ _ := I
    refine lv_iadd hx hb (kn_dec tX9_value 51 rfl) ?_
    refine lv_topi (fun x8 ex8 => ?_)
    have h := h x8 ex8
    refine kw_puti hx hb hts inX9 tyX9 tyX9_ok nmX9 hown hK I 0 rfl rfl 31 (by decide) rfl (hts _ q4_231) rfl rfl rfl (kn_dec tX9_value 52 rfl) (fun v_m9 ev_m9 H locs I => ?_)
    have h := h v_m9 ev_m9
    have I : kn_I D tc (kn_A w0 s.heap.size) s.heap [(kModel, ad_m, _)] _ _ := I
    refine lv_aload_n hx hb (kn_dec tX9_value 53 rfl) rfl (lv_at hl 0 rfl) ?_
    refine lv_iconst (v := (1)) hx hb (kn_dec tX9_value 54 rfl) (by decide) ?_
    refine lv_iload_n hx hb (kn_dec tX9_value 55 rfl) rfl (lv_at hl 2 rfl) ?_
    refine kw_callv (wc := [(kModel, ad_m, _)]) (wr := []) I hA [0] [] rfl rfl (by decide) (by decide) (kn_runV (As := [.int _, .int _]) S0 hK hZ hA I ((ctX9_entry h).met _) (kn_cwV 2 hts q6_44 q6_46 q0_50 q1_10 q6_47 rfl rfl (by decide +kernel) ⟨(Nat.le_of_ble_eq_true rfl), (Nat.le_of_ble_eq_true rfl)⟩) [0] rfl (by decide) 0 rfl rfl rfl rfl hl.1 rfl (Nat.le_of_ble_eq_true rfl) (kn_dec tX9_value 56 rfl) ⟨(Nat.le_of_ble_eq_true rfl), (Nat.le_of_ble_eq_true rfl)⟩) (fun u11 H locs h I => ?_)
    have I : kn_I D tc (kn_A w0 s.heap.size) s.heap [(kModel, ad_m, _)] _ _ := I
    exact kw_vret hx hb hr hlocks I _ rfl h (kn_dec tX9_value 57 rfl)
  · have h := h.2 c1
    refine lv_aload_n hx hb (kn_dec tX9_value 37 rfl) rfl (lv_at hl 0 rfl) ?_
    refine lv_iconst (v := (0)) hx hb (kn_dec tX9_value 38 rfl) (by decide) ?_
    refine lv_iload_n hx hb (kn_dec tX9_value 39 rfl) rfl (lv_at hl 1 rfl) ?_
    refine kw_callv (wc := [(kModel, ad_m, _)]) (wr := []) I hA [0] [] rfl rfl (by decide) (by decide) (kn_runV (As := [.int _, .int _]) S0 hK hZ hA I ((ctX9_fails h).met _) (kn_cwV 2 hts q5_214 q5_216 q0_36 q1_10 q5_217 rfl rfl (by decide +kernel) ⟨(Nat.le_of_ble_eq_true rfl), (Nat.le_of_ble_eq_true rfl)⟩) [0] rfl (by decide) 0 rfl rfl rfl rfl hl.1 rfl (Nat.le_of_ble_eq_true rfl) (kn_dec tX9_value 40 rfl) ⟨(Nat.le_of_ble_eq_true rfl), (Nat.le_of_ble_eq_true rfl)⟩) (fun u13 H locs h I => ?_)
    have I : kn_I D tc (kn_A w0 s.heap.size) s.heap [(kModel, ad_m, _)] _ _ := I
    exact kw_vret hx hb hr hlocks I _ rfl h (kn_dec tX9_value 41 rfl)
def PX9_value_L37   (post : OV → Prop) : Nat → Int32 → Int32 → OV → Prop
  | 0, _, _, _ => False
  | n + 1, y1, y2, v_m => (((v_m.1 39) ≤ y2 → PX9_value_b62 post y1 y2 v_m) ∧ (¬ (v_m.1 39) ≤ y2 → (PX9_wordOf y2 (fun r2 => (PX9_stood v_m r2 (fun r4 => ((¬ r4 = ((0 : Int32)) → PX9_value_b62 post y1 y2 v_m) ∧ (r4 = ((0 : Int32)) → (∀ x7 : Int32, x7 = y2 + (1 : Int32) → PX9_value_L37 post n y1 x7 v_m)))))))))
set_option maxRecDepth 100000 in
set_option maxHeartbeats 1000000 in
theorem wX9_value_L37   {post : OV → Prop} {ad_m : Nat → Nat} (X : kn_X p s m args meth c cX9_value 3 none RX9 kn_all D tc Z (kn_A w0 s.heap.size))    : ∀ n : Nat, ∀ (H : Heap) (locs : List Loc) (ls : Array Slot) (y1 : Int32) (y2 : Int32) (v_m : OV), kn_I D tc (kn_A w0 s.heap.size) s.heap [(kModel, ad_m, v_m)] H locs → lv_has ls 3 [(0, .ref (ad_m 0)), (1, .int y1), (2, .int y2)] → PX9_value_L37 post n y1 y2 v_m → W p l e rmX9_value s m args below meth c H locs 0 0 (kn_Qv D tc w0 (fun (u : OV) => [(kModel, ad_m, u)]) (fun (u : OV) => post u) below args s 0 0) (F0 m 37 ls []) := by
  obtain ⟨S0, hr, hlocks, hK, hZ, hA⟩ := id X
  obtain ⟨hx, hb, hml, hown, hts⟩ := id S0
  intro n
  induction n with
  | zero =>
    intro H locs ls y1 y2 v_m I hl h
    unfold PX9_value_L37 at h
    exact h.elim
  | succ n ih =>
    intro H locs ls y1 y2 v_m I hl h
    unfold PX9_value_L37 at h
    refine lv_iload_n hx hb (kn_dec tX9_value 22 rfl) rfl (lv_at hl 2 rfl) ?_
    refine lv_aload_n hx hb (kn_dec tX9_value 23 rfl) rfl (lv_at hl 0 rfl) ?_
    refine kw_geti hx hb hts inX9 hown hK I 0 rfl rfl 39 (by decide) rfl (hts _ q4_239) (kn_dec tX9_value 24 rfl) ?_
    refine lv_icmp_ge (tgt := 62) hx hb (kn_dec tX9_value 25 rfl) (by decide) (fun c1 => ?_) (fun c1 => ?_)
    · have h := h.1 c1
      exact wX9_value_b62 X _ _ _ _ _ _  I (lv_sub hl [0, 1, 2] rfl) h
    · have h := h.2 c1
      refine lv_aload_n hx hb (kn_dec tX9_value 26 rfl) rfl (lv_at hl 0 rfl) ?_
      refine lv_iload_n hx hb (kn_dec tX9_value 27 rfl) rfl (lv_at hl 2 rfl) ?_
      have I : kn_I D tc (kn_A w0 s.heap.size) s.heap ([] ++ (List.flatten [[(kModel, ad_m, _)]])) _ _ := I.perm (kn_segA (segs := [[(kModel, ad_m, _)]]) (sC := []) (sR := [[(kModel, ad_m, _)]]) [0] rfl rfl)
      refine kw_callq (wc := []) (wr := (List.flatten [[(kModel, ad_m, _)]])) I hA (kn_pl1 _ _) (kn_pl2 _ _) (kn_pl1_ok _ _) (kn_pl2_ok _ _) (kn_pl2_nd _ _) (kn_pl_dis _ _) (kn_runS (As := [.int _]) S0 hK hZ hA I ((ctX9_wordOf h).met _) (kn_cwS 1 hts q6_48 q6_49 q1_10 q6_50 rfl rfl (by decide +kernel) ⟨(Nat.le_of_ble_eq_true rfl), (Nat.le_of_ble_eq_true rfl)⟩) (kn_pl1 _ _) (kn_pl1_ok _ _) (kn_pl1_nd _ _) rfl hl.1 rfl (Nat.le_of_ble_eq_true rfl) (kn_dec tX9_value 28 rfl) ⟨(Nat.le_of_ble_eq_true rfl), (Nat.le_of_ble_eq_true rfl)⟩) (fun r2 u3 H locs h I => ?_)
      obtain ⟨r2, hi_r2, rfl, h⟩ := h
      have I : kn_I D tc (kn_A w0 s.heap.size) s.heap (List.flatten [[(kModel, ad_m, _)]]) _ _ := I.perm (kn_segB (sC := [[(kModel, ad_m, _)]]) (sR := []) (segs := [[(kModel, ad_m, _)]]) [0] rfl rfl)
      have I : kn_I D tc (kn_A w0 s.heap.size) s.heap [(kModel, ad_m, _)] _ _ := I
      refine kw_calli (wc := [(kModel, ad_m, _)]) (wr := []) I hA [0] [] rfl rfl (by decide) (by decide) (kn_runV (As := [.ref (Z.1 r2)]) S0 hK hZ hA I ((ctX9_stood h).met _) (kn_cwV 1 hts q5_208 q5_210 q0_35 q1_10 q5_211 rfl rfl (by decide +kernel) ⟨(Nat.le_of_ble_eq_true rfl), (Nat.le_of_ble_eq_true rfl)⟩) [0] rfl (by decide) 0 rfl rfl rfl rfl hl.1 rfl (Nat.le_of_ble_eq_true rfl) (kn_dec tX9_value 29 rfl) ⟨(Nat.le_of_ble_eq_true rfl), (Nat.le_of_ble_eq_true rfl)⟩) (fun r4 u5 H locs h I => ?_)
      obtain ⟨hz_r4, h⟩ := h
      have I : kn_I D tc (kn_A w0 s.heap.size) s.heap [(kModel, ad_m, _)] _ _ := I
      refine lv_if_ne (tgt := 62) hx hb (kn_dec tX9_value 30 rfl) (by decide) (fun c6 => ?_) (fun c6 => ?_)
      · have h := h.1 c6
        exact wX9_value_b62 X _ _ _ _ _ _  I (lv_sub hl [0, 1, 2] rfl) h
      · have h := h.2 c6
        refine kw_iinc (lvf := fun y => [(2, .int y), (0, .ref (ad_m 0)), (1, .int _)]) (nv := (1)) hx hb (kn_dec tX9_value 31 rfl) hl (k := 2) rfl (by decide) (by decide) (fun _ => rfl) (fun x7 ex7 ls hl => ?_)
        have h := h x7 ex7
        refine lv_goto (tgt := 37) hx hb (kn_dec tX9_value 32 rfl) (by decide) ?_
        exact ih _ _ _ _ _ _  I (lv_sub hl [1, 2, 0] rfl) h
def PX9_value  (v_m : OV) (post : OV → Prop) : Prop := (PX9_blanks v_m (fun v_m1 => (∀ x3 : Int32, x3 = (v_m1.1 31) → (PX9_isDigit v_m1 (fun r4 => ((r4 = ((0 : Int32)) → (∃ n7 : Nat, PX9_value_L37 post n7 x3 ((0 : Int32)) v_m1)) ∧ (¬ r4 = ((0 : Int32)) → (PX9_digits v_m1 ((99999 : Int32)) (fun r9 v_m8 => (PX9_isCounted v_m8 x3 (fun v_m11 => (PX9_entry v_m11 ((0 : Int32)) r9 (fun v_m13 => post v_m13)))))))))))))
set_option maxRecDepth 100000 in
set_option maxHeartbeats 1000000 in
theorem ctX9_value {l : Launch} {D : va_G} {tc : Nat → ClassId} {Z : (Nat → Nat) × (Nat → Nat)}  {ad_m : Nat → Nat} {v_m : OV}    {post : OV → Prop} (h : PX9_value  v_m post) : CTv l D tc Z yX9_value (Cond.code yX9_value cX9_value 3 none :: kn_all) rmX9_value 0 0 [.ref (ad_m 0)] [(kModel, ad_m, v_m)] (fun (u : OV) => [(kModel, ad_m, u)]) (fun (u : OV) => post u) := by
  refine kn_ofv (cc := cX9_value) (nL := 3) (ret := none) (lv := [(0, .ref (ad_m 0))]) (by decide) (Nat.le_of_ble_eq_true rfl) rfl (fun p e s m below meth c ls X I hl _ => ?_)
  obtain ⟨S0, hr, hlocks, hK, hZ, hA⟩ := id X
  obtain ⟨hx, hb, hml, hown, hts⟩ := id S0
  unfold PX9_value at h
  refine lv_aload_n hx hb (kn_dec tX9_value 0 rfl) rfl (lv_at hl 0 rfl) ?_
  refine kw_callv (wc := [(kModel, ad_m, _)]) (wr := []) I hA [0] [] rfl rfl (by decide) (by decide) (kn_runV (As := []) S0 hK hZ hA I ((ctX9_blanks h).met _) (kn_cwV 0 hts q5_191 q5_193 q0_33 q1_10 q5_194 rfl rfl (by decide +kernel) ⟨(Nat.le_of_ble_eq_true rfl), (Nat.le_of_ble_eq_true rfl)⟩) [0] rfl (by decide) 0 rfl rfl rfl rfl hl.1 rfl (Nat.le_of_ble_eq_true rfl) (kn_dec tX9_value 1 rfl) ⟨(Nat.le_of_ble_eq_true rfl), (Nat.le_of_ble_eq_true rfl)⟩) (fun u2 H locs h I => ?_)
  have I : kn_I D tc (kn_A _ s.heap.size) s.heap [(kModel, ad_m, _)] _ _ := I
  refine lv_aload_n hx hb (kn_dec tX9_value 2 rfl) rfl (lv_at hl 0 rfl) ?_
  refine kw_geti hx hb hts inX9 hown hK I 0 rfl rfl 31 (by decide) rfl (hts _ q4_231) (kn_dec tX9_value 3 rfl) ?_
  refine lv_topi (fun x3 ex3 => ?_)
  have h := h x3 ex3
  refine lv_istore_n (lv' := [(1, .int _), (0, .ref (ad_m 0))]) hx hb (kn_dec tX9_value 4 rfl) rfl hl (by decide) rfl (fun ls hl => ?_)
  refine lv_aload_n hx hb (kn_dec tX9_value 5 rfl) rfl (lv_at hl 1 rfl) ?_
  refine kw_calli (wc := [(kModel, ad_m, _)]) (wr := []) I hA [0] [] rfl rfl (by decide) (by decide) (kn_runV (As := []) S0 hK hZ hA I ((ctX9_isDigit h).met _) (kn_cwV 0 hts q5_235 q5_237 q0_41 q1_10 q5_238 rfl rfl (by decide +kernel) ⟨(Nat.le_of_ble_eq_true rfl), (Nat.le_of_ble_eq_true rfl)⟩) [0] rfl (by decide) 0 rfl rfl rfl rfl hl.1 rfl (Nat.le_of_ble_eq_true rfl) (kn_dec tX9_value 6 rfl) ⟨(Nat.le_of_ble_eq_true rfl), (Nat.le_of_ble_eq_true rfl)⟩) (fun r4 u5 H locs h I => ?_)
  obtain ⟨hz_r4, h⟩ := h
  have I : kn_I D tc (kn_A _ s.heap.size) s.heap [(kModel, ad_m, _)] _ _ := I
  refine lv_if_eq (tgt := 35) hx hb (kn_dec tX9_value 7 rfl) (by decide) (fun c6 => ?_) (fun c6 => ?_)
  · have h := h.1 c6
    refine lv_iconst (v := (0)) hx hb (kn_dec tX9_value 20 rfl) (by decide) ?_
    refine lv_istore_n (lv' := [(2, .int _), (1, .int _), (0, .ref (ad_m 0))]) hx hb (kn_dec tX9_value 21 rfl) rfl hl (by decide) rfl (fun ls hl => ?_)
    obtain ⟨n7, h⟩ := h
    exact wX9_value_L37 X n7 _ _ _ _ _ _  I (lv_sub hl [2, 1, 0] rfl) h
  · have h := h.2 c6
    refine lv_aload_n hx hb (kn_dec tX9_value 8 rfl) rfl (lv_at hl 1 rfl) ?_
    refine lv_ldc (v := (99999)) hx hb hown (hts _ q5_230) (kn_dec tX9_value 9 rfl) ?_
    refine kw_calli (wc := [(kModel, ad_m, _)]) (wr := []) I hA [0] [] rfl rfl (by decide) (by decide) (kn_runV (As := [.int _]) S0 hK hZ hA I ((ctX9_digits h).met _) (kn_cwV 1 hts q5_231 q5_233 q0_40 q1_10 q5_234 rfl rfl (by decide +kernel) ⟨(Nat.le_of_ble_eq_true rfl), (Nat.le_of_ble_eq_true rfl)⟩) [0] rfl (by decide) 0 rfl rfl rfl rfl hl.1 rfl (Nat.le_of_ble_eq_true rfl) (kn_dec tX9_value 10 rfl) ⟨(Nat.le_of_ble_eq_true rfl), (Nat.le_of_ble_eq_true rfl)⟩) (fun r9 u10 H locs h I => ?_)
    have I : kn_I D tc (kn_A _ s.heap.size) s.heap [(kModel, ad_m, _)] _ _ := I
    refine lv_istore_n (lv' := [(2, .int _), (1, .int _), (0, .ref (ad_m 0))]) hx hb (kn_dec tX9_value 11 rfl) rfl hl (by decide) rfl (fun ls hl => ?_)
    refine lv_aload_n hx hb (kn_dec tX9_value 12 rfl) rfl (lv_at hl 2 rfl) ?_
    refine lv_iload_n hx hb (kn_dec tX9_value 13 rfl) rfl (lv_at hl 1 rfl) ?_
    refine kw_callv (wc := [(kModel, ad_m, _)]) (wr := []) I hA [0] [] rfl rfl (by decide) (by decide) (kn_runV (As := [.int _]) S0 hK hZ hA I ((ctX9_isCounted h).met _) (kn_cwV 1 hts q6_40 q6_42 q0_49 q1_10 q6_43 rfl rfl (by decide +kernel) ⟨(Nat.le_of_ble_eq_true rfl), (Nat.le_of_ble_eq_true rfl)⟩) [0] rfl (by decide) 0 rfl rfl rfl rfl hl.1 rfl (Nat.le_of_ble_eq_true rfl) (kn_dec tX9_value 14 rfl) ⟨(Nat.le_of_ble_eq_true rfl), (Nat.le_of_ble_eq_true rfl)⟩) (fun u12 H locs h I => ?_)
    have I : kn_I D tc (kn_A _ s.heap.size) s.heap [(kModel, ad_m, _)] _ _ := I
    refine lv_aload_n hx hb (kn_dec tX9_value 15 rfl) rfl (lv_at hl 2 rfl) ?_
    refine lv_iconst (v := (0)) hx hb (kn_dec tX9_value 16 rfl) (by decide) ?_
    refine lv_iload_n hx hb (kn_dec tX9_value 17 rfl) rfl (lv_at hl 0 rfl) ?_
    refine kw_callv (wc := [(kModel, ad_m, _)]) (wr := []) I hA [0] [] rfl rfl (by decide) (by decide) (kn_runV (As := [.int _, .int _]) S0 hK hZ hA I ((ctX9_entry h).met _) (kn_cwV 2 hts q6_44 q6_46 q0_50 q1_10 q6_47 rfl rfl (by decide +kernel) ⟨(Nat.le_of_ble_eq_true rfl), (Nat.le_of_ble_eq_true rfl)⟩) [0] rfl (by decide) 0 rfl rfl rfl rfl hl.1 rfl (Nat.le_of_ble_eq_true rfl) (kn_dec tX9_value 18 rfl) ⟨(Nat.le_of_ble_eq_true rfl), (Nat.le_of_ble_eq_true rfl)⟩) (fun u14 H locs h I => ?_)
    have I : kn_I D tc (kn_A _ s.heap.size) s.heap [(kModel, ad_m, _)] _ _ := I
    exact kw_vret hx hb hr hlocks I _ rfl h (kn_dec tX9_value 19 rfl)

/-! X9_term -/
abbrev rmX9_term : Room := { frames := 6, cells := 0, slots := 0, locals := 131 }
def PX9_term_b72  (K8 : OV → Prop) (post : OV → Prop) (t0 : Int32) (v_m : OV) : Prop := (∀ x1 : Int32, x1 = ((v_m.1 31) + ((1 : Int32))) → (∀ v_m2 : OV, v_m2 = si v_m 31 x1 → (PX9_value v_m2 (fun v_m3 => (PX9_entry v_m3 t0 ((0 : Int32)) (fun v_m5 => (PX9_blanks v_m5 (fun v_m7 => K8 v_m7))))))))
set_option maxRecDepth 100000 in
set_option maxHeartbeats 1000000 in
theorem wX9_term_b72  {K8 : OV → Prop} {post : OV → Prop} {ad_m : Nat → Nat} (X : kn_X p s m args meth c cX9_term 2 none RX9 kn_all D tc Z (kn_A w0 s.heap.size))   (hK8 : ∀ (H : Heap) (locs : List Loc) (ls : Array Slot) (v_m : OV), kn_I D tc (kn_A w0 s.heap.size) s.heap [(kModel, ad_m, v_m)] H locs → lv_has ls 2 [(0, .ref (ad_m 0))] → K8 v_m → W p l e rmX9_term s m args below meth c H locs 0 0 (kn_Qv D tc w0 (fun (u : OV) => [(kModel, ad_m, u)]) (fun (u : OV) => post u) below args s 0 0) (F0 m 8 ls [])) : ∀ (H : Heap) (locs : List Loc) (ls : Array Slot) (t0 : Int32) (v_m : OV), kn_I D tc (kn_A w0 s.heap.size) s.heap [(kModel, ad_m, v_m)] H locs → lv_has ls 2 [(0, .ref (ad_m 0))] → PX9_term_b72 K8 post t0 v_m → W p l e rmX9_term s m args below meth c H locs 0 0 (kn_Qv D tc w0 (fun (u : OV) => [(kModel, ad_m, u)]) (fun (u : OV) => post u) below args s 0 0) (F0 m 72 ls [.int t0]) := by
  obtain ⟨S0, hr, hlocks, hK, hZ, hA⟩ := id X
  obtain ⟨hx, hb, hml, hown, hts⟩ := id S0
  intro H locs ls t0 v_m I hl h
  unfold PX9_term_b72 at h
  refine lv_istore_n (lv' := [(1, .int _), (0, .ref (ad_m 0))]) hx hb (kn_dec tX9_term 32 rfl) rfl hl (by decide) rfl (fun ls hl => ?_)
  refine lv_aload_n hx hb (kn_dec tX9_term 33 rfl) rfl (lv_at hl 1 rfl) ?_
  refine lv_dup hx hb (kn_dec tX9_term 34 rfl) rfl ?_
  refine kw_geti hx hb hts inX9 hown hK I 0 rfl rfl 31 (by decide) rfl (hts _ q4_231) (kn_dec tX9_term 35 rfl) ?_
  refine lv_iconst (v := (1)) hx hb (kn_dec tX9_term 36 rfl) (by decide) ?_
  refine lv_iadd hx hb (kn_dec tX9_term 37 rfl) ?_
  refine lv_topi (fun x1 ex1 => ?_)
  have h := h x1 ex1
  refine kw_puti hx hb hts inX9 tyX9 tyX9_ok nmX9 hown hK I 0 rfl rfl 31 (by decide) rfl (hts _ q4_231) rfl rfl rfl (kn_dec tX9_term 38 rfl) (fun v_m2 ev_m2 H locs I => ?_)
  have h := h v_m2 ev_m2
  have I : kn_I D tc (kn_A w0 s.heap.size) s.heap [(kModel, ad_m, _)] _ _ := I
  refine lv_aload_n hx hb (kn_dec tX9_term 39 rfl) rfl (lv_at hl 1 rfl) ?_
  refine kw_callv (wc := [(kModel, ad_m, _)]) (wr := []) I hA [0] [] rfl rfl (by decide) (by decide) (kn_runV (As := []) S0 hK hZ hA I ((ctX9_value h).met _) (kn_cwV 0 hts q6_36 q6_38 q0_48 q1_10 q6_39 rfl rfl (by decide +kernel) ⟨(Nat.le_of_ble_eq_true rfl), (Nat.le_of_ble_eq_true rfl)⟩) [0] rfl (by decide) 0 rfl rfl rfl rfl hl.1 rfl (Nat.le_of_ble_eq_true rfl) (kn_dec tX9_term 40 rfl) ⟨(Nat.le_of_ble_eq_true rfl), (Nat.le_of_ble_eq_true rfl)⟩) (fun u4 H locs h I => ?_)
  have I : kn_I D tc (kn_A w0 s.heap.size) s.heap [(kModel, ad_m, _)] _ _ := I
  refine lv_aload_n hx hb (kn_dec tX9_term 41 rfl) rfl (lv_at hl 1 rfl) ?_
  refine lv_iload_n hx hb (kn_dec tX9_term 42 rfl) rfl (lv_at hl 0 rfl) ?_
  refine lv_iconst (v := (0)) hx hb (kn_dec tX9_term 43 rfl) (by decide) ?_
  refine kw_callv (wc := [(kModel, ad_m, _)]) (wr := []) I hA [0] [] rfl rfl (by decide) (by decide) (kn_runV (As := [.int _, .int _]) S0 hK hZ hA I ((ctX9_entry h).met _) (kn_cwV 2 hts q6_44 q6_46 q0_50 q1_10 q6_47 rfl rfl (by decide +kernel) ⟨(Nat.le_of_ble_eq_true rfl), (Nat.le_of_ble_eq_true rfl)⟩) [0] rfl (by decide) 0 rfl rfl rfl rfl hl.1 rfl (Nat.le_of_ble_eq_true rfl) (kn_dec tX9_term 44 rfl) ⟨(Nat.le_of_ble_eq_true rfl), (Nat.le_of_ble_eq_true rfl)⟩) (fun u6 H locs h I => ?_)
  have I : kn_I D tc (kn_A w0 s.heap.size) s.heap [(kModel, ad_m, _)] _ _ := I
  refine lv_aload_n hx hb (kn_dec tX9_term 45 rfl) rfl (lv_at hl 1 rfl) ?_
  refine kw_callv (wc := [(kModel, ad_m, _)]) (wr := []) I hA [0] [] rfl rfl (by decide) (by decide) (kn_runV (As := []) S0 hK hZ hA I ((ctX9_blanks h).met _) (kn_cwV 0 hts q5_191 q5_193 q0_33 q1_10 q5_194 rfl rfl (by decide +kernel) ⟨(Nat.le_of_ble_eq_true rfl), (Nat.le_of_ble_eq_true rfl)⟩) [0] rfl (by decide) 0 rfl rfl rfl rfl hl.1 rfl (Nat.le_of_ble_eq_true rfl) (kn_dec tX9_term 46 rfl) ⟨(Nat.le_of_ble_eq_true rfl), (Nat.le_of_ble_eq_true rfl)⟩) (fun u8 H locs h I => ?_)
  have I : kn_I D tc (kn_A w0 s.heap.size) s.heap [(kModel, ad_m, _)] _ _ := I
  refine lv_goto (tgt := 8) hx hb (kn_dec tX9_term 47 rfl) (by decide) ?_
  exact hK8 _ _ _ _  I (lv_sub hl [1] rfl) h
def PX9_term_b42  (K8 : OV → Prop) (post : OV → Prop) (v_m : OV) : Prop := (PX9_sign v_m (fun r1 => ((¬ r1 = ((42 : Int32)) → (PX9_sign v_m (fun r4 => ((¬ r4 = ((47 : Int32)) → PX9_term_b72 K8 post ((15 : Int32)) v_m) ∧ (r4 = ((47 : Int32)) → PX9_term_b72 K8 post ((14 : Int32)) v_m))))) ∧ (r1 = ((42 : Int32)) → PX9_term_b72 K8 post ((13 : Int32)) v_m))))
set_option maxRecDepth 100000 in
set_option maxHeartbeats 1000000 in
theorem wX9_term_b42  {K8 : OV → Prop} {post : OV → Prop} {ad_m : Nat → Nat} (X : kn_X p s m args meth c cX9_term 2 none RX9 kn_all D tc Z (kn_A w0 s.heap.size))   (hK8 : ∀ (H : Heap) (locs : List Loc) (ls : Array Slot) (v_m : OV), kn_I D tc (kn_A w0 s.heap.size) s.heap [(kModel, ad_m, v_m)] H locs → lv_has ls 2 [(0, .ref (ad_m 0))] → K8 v_m → W p l e rmX9_term s m args below meth c H locs 0 0 (kn_Qv D tc w0 (fun (u : OV) => [(kModel, ad_m, u)]) (fun (u : OV) => post u) below args s 0 0) (F0 m 8 ls [])) : ∀ (H : Heap) (locs : List Loc) (ls : Array Slot) (v_m : OV), kn_I D tc (kn_A w0 s.heap.size) s.heap [(kModel, ad_m, v_m)] H locs → lv_has ls 2 [(0, .ref (ad_m 0))] → PX9_term_b42 K8 post v_m → W p l e rmX9_term s m args below meth c H locs 0 0 (kn_Qv D tc w0 (fun (u : OV) => [(kModel, ad_m, u)]) (fun (u : OV) => post u) below args s 0 0) (F0 m 42 ls []) := by
  obtain ⟨S0, hr, hlocks, hK, hZ, hA⟩ := id X
  obtain ⟨hx, hb, hml, hown, hts⟩ := id S0
  intro H locs ls v_m I hl h
  unfold PX9_term_b42 at h
  refine lv_aload_n hx hb (kn_dec tX9_term 19 rfl) rfl (lv_at hl 0 rfl) ?_
  refine kw_calli (wc := [(kModel, ad_m, _)]) (wr := []) I hA [0] [] rfl rfl (by decide) (by decide) (kn_runV (As := []) S0 hK hZ hA I ((ctX9_sign h).met _) (kn_cwV 0 hts q5_195 q5_197 q0_34 q1_10 q5_198 rfl rfl (by decide +kernel) ⟨(Nat.le_of_ble_eq_true rfl), (Nat.le_of_ble_eq_true rfl)⟩) [0] rfl (by decide) 0 rfl rfl rfl rfl hl.1 rfl (Nat.le_of_ble_eq_true rfl) (kn_dec tX9_term 20 rfl) ⟨(Nat.le_of_ble_eq_true rfl), (Nat.le_of_ble_eq_true rfl)⟩) (fun r1 u2 H locs h I => ?_)
  have I : kn_I D tc (kn_A w0 s.heap.size) s.heap [(kModel, ad_m, _)] _ _ := I
  refine lv_bipush (v := (42)) hx hb (kn_dec tX9_term 21 rfl) (by decide) ?_
  refine lv_icmp_ne (tgt := 56) hx hb (kn_dec tX9_term 22 rfl) (by decide) (fun c3 => ?_) (fun c3 => ?_)
  · have h := h.1 c3
    refine lv_aload_n hx hb (kn_dec tX9_term 25 rfl) rfl (lv_at hl 0 rfl) ?_
    refine kw_calli (wc := [(kModel, ad_m, _)]) (wr := []) I hA [0] [] rfl rfl (by decide) (by decide) (kn_runV (As := []) S0 hK hZ hA I ((ctX9_sign h).met _) (kn_cwV 0 hts q5_195 q5_197 q0_34 q1_10 q5_198 rfl rfl (by decide +kernel) ⟨(Nat.le_of_ble_eq_true rfl), (Nat.le_of_ble_eq_true rfl)⟩) [0] rfl (by decide) 0 rfl rfl rfl rfl hl.1 rfl (Nat.le_of_ble_eq_true rfl) (kn_dec tX9_term 26 rfl) ⟨(Nat.le_of_ble_eq_true rfl), (Nat.le_of_ble_eq_true rfl)⟩) (fun r4 u5 H locs h I => ?_)
    have I : kn_I D tc (kn_A w0 s.heap.size) s.heap [(kModel, ad_m, _)] _ _ := I
    refine lv_bipush (v := (47)) hx hb (kn_dec tX9_term 27 rfl) (by decide) ?_
    refine lv_icmp_ne (tgt := 70) hx hb (kn_dec tX9_term 28 rfl) (by decide) (fun c6 => ?_) (fun c6 => ?_)
    · have h := h.1 c6
      refine lv_bipush (v := (15)) hx hb (kn_dec tX9_term 31 rfl) (by decide) ?_
      exact wX9_term_b72 X hK8 _ _ _ _ _  I (lv_sub hl [0] rfl) h
    · have h := h.2 c6
      refine lv_bipush (v := (14)) hx hb (kn_dec tX9_term 29 rfl) (by decide) ?_
      refine lv_goto (tgt := 72) hx hb (kn_dec tX9_term 30 rfl) (by decide) ?_
      exact wX9_term_b72 X hK8 _ _ _ _ _  I (lv_sub hl [0] rfl) h
  · have h := h.2 c3
    refine lv_bipush (v := (13)) hx hb (kn_dec tX9_term 23 rfl) (by decide) ?_
    refine lv_goto (tgt := 72) hx hb (kn_dec tX9_term 24 rfl) (by decide) ?_
    exact wX9_term_b72 X hK8 _ _ _ _ _  I (lv_sub hl [0] rfl) h
def PX9_term_L8   (post : OV → Prop) : Nat → OV → Prop
  | 0, _ => False
  | n + 1, v_m => ((¬ (v_m.1 32) = ((0 : Int32)) → post v_m) ∧ ((v_m.1 32) = ((0 : Int32)) → (PX9_sign v_m (fun r2 => ((r2 = ((42 : Int32)) → PX9_term_b42 (PX9_term_L8 post n) post v_m) ∧ (¬ r2 = ((42 : Int32)) → (PX9_sign v_m (fun r5 => ((r5 = ((47 : Int32)) → PX9_term_b42 (PX9_term_L8 post n) post v_m) ∧ (¬ r5 = ((47 : Int32)) → (PX9_sign v_m (fun r8 => ((¬ r8 = ((37 : Int32)) → post v_m) ∧ (r8 = ((37 : Int32)) → PX9_term_b42 (PX9_term_L8 post n) post v_m))))))))))))))
set_option maxRecDepth 100000 in
set_option maxHeartbeats 1000000 in
theorem wX9_term_L8   {post : OV → Prop} {ad_m : Nat → Nat} (X : kn_X p s m args meth c cX9_term 2 none RX9 kn_all D tc Z (kn_A w0 s.heap.size))    : ∀ n : Nat, ∀ (H : Heap) (locs : List Loc) (ls : Array Slot) (v_m : OV), kn_I D tc (kn_A w0 s.heap.size) s.heap [(kModel, ad_m, v_m)] H locs → lv_has ls 2 [(0, .ref (ad_m 0))] → PX9_term_L8 post n v_m → W p l e rmX9_term s m args below meth c H locs 0 0 (kn_Qv D tc w0 (fun (u : OV) => [(kModel, ad_m, u)]) (fun (u : OV) => post u) below args s 0 0) (F0 m 8 ls []) := by
  obtain ⟨S0, hr, hlocks, hK, hZ, hA⟩ := id X
  obtain ⟨hx, hb, hml, hown, hts⟩ := id S0
  intro n
  induction n with
  | zero =>
    intro H locs ls v_m I hl h
    unfold PX9_term_L8 at h
    exact h.elim
  | succ n ih =>
    intro H locs ls v_m I hl h
    unfold PX9_term_L8 at h
    refine lv_aload_n hx hb (kn_dec tX9_term 4 rfl) rfl (lv_at hl 0 rfl) ?_
    refine kw_geti hx hb hts inX9 hown hK I 0 rfl rfl 32 (by decide) rfl (hts _ q4_232) (kn_dec tX9_term 5 rfl) ?_
    refine lv_if_ne (tgt := 100) hx hb (kn_dec tX9_term 6 rfl) (by decide) (fun c1 => ?_) (fun c1 => ?_)
    · have h := h.1 c1
      exact kw_vret hx hb hr hlocks I _ rfl h (kn_dec tX9_term 48 rfl)
    · have h := h.2 c1
      refine lv_aload_n hx hb (kn_dec tX9_term 7 rfl) rfl (lv_at hl 0 rfl) ?_
      refine kw_calli (wc := [(kModel, ad_m, _)]) (wr := []) I hA [0] [] rfl rfl (by decide) (by decide) (kn_runV (As := []) S0 hK hZ hA I ((ctX9_sign h).met _) (kn_cwV 0 hts q5_195 q5_197 q0_34 q1_10 q5_198 rfl rfl (by decide +kernel) ⟨(Nat.le_of_ble_eq_true rfl), (Nat.le_of_ble_eq_true rfl)⟩) [0] rfl (by decide) 0 rfl rfl rfl rfl hl.1 rfl (Nat.le_of_ble_eq_true rfl) (kn_dec tX9_term 8 rfl) ⟨(Nat.le_of_ble_eq_true rfl), (Nat.le_of_ble_eq_true rfl)⟩) (fun r2 u3 H locs h I => ?_)
      have I : kn_I D tc (kn_A w0 s.heap.size) s.heap [(kModel, ad_m, _)] _ _ := I
      refine lv_bipush (v := (42)) hx hb (kn_dec tX9_term 9 rfl) (by decide) ?_
      refine lv_icmp_eq (tgt := 42) hx hb (kn_dec tX9_term 10 rfl) (by decide) (fun c4 => ?_) (fun c4 => ?_)
      · have h := h.1 c4
        exact wX9_term_b42 X ih _ _ _ _  I (lv_sub hl [0] rfl) h
      · have h := h.2 c4
        refine lv_aload_n hx hb (kn_dec tX9_term 11 rfl) rfl (lv_at hl 0 rfl) ?_
        refine kw_calli (wc := [(kModel, ad_m, _)]) (wr := []) I hA [0] [] rfl rfl (by decide) (by decide) (kn_runV (As := []) S0 hK hZ hA I ((ctX9_sign h).met _) (kn_cwV 0 hts q5_195 q5_197 q0_34 q1_10 q5_198 rfl rfl (by decide +kernel) ⟨(Nat.le_of_ble_eq_true rfl), (Nat.le_of_ble_eq_true rfl)⟩) [0] rfl (by decide) 0 rfl rfl rfl rfl hl.1 rfl (Nat.le_of_ble_eq_true rfl) (kn_dec tX9_term 12 rfl) ⟨(Nat.le_of_ble_eq_true rfl), (Nat.le_of_ble_eq_true rfl)⟩) (fun r5 u6 H locs h I => ?_)
        have I : kn_I D tc (kn_A w0 s.heap.size) s.heap [(kModel, ad_m, _)] _ _ := I
        refine lv_bipush (v := (47)) hx hb (kn_dec tX9_term 13 rfl) (by decide) ?_
        refine lv_icmp_eq (tgt := 42) hx hb (kn_dec tX9_term 14 rfl) (by decide) (fun c7 => ?_) (fun c7 => ?_)
        · have h := h.1 c7
          exact wX9_term_b42 X ih _ _ _ _  I (lv_sub hl [0] rfl) h
        · have h := h.2 c7
          refine lv_aload_n hx hb (kn_dec tX9_term 15 rfl) rfl (lv_at hl 0 rfl) ?_
          refine kw_calli (wc := [(kModel, ad_m, _)]) (wr := []) I hA [0] [] rfl rfl (by decide) (by decide) (kn_runV (As := []) S0 hK hZ hA I ((ctX9_sign h).met _) (kn_cwV 0 hts q5_195 q5_197 q0_34 q1_10 q5_198 rfl rfl (by decide +kernel) ⟨(Nat.le_of_ble_eq_true rfl), (Nat.le_of_ble_eq_true rfl)⟩) [0] rfl (by decide) 0 rfl rfl rfl rfl hl.1 rfl (Nat.le_of_ble_eq_true rfl) (kn_dec tX9_term 16 rfl) ⟨(Nat.le_of_ble_eq_true rfl), (Nat.le_of_ble_eq_true rfl)⟩) (fun r8 u9 H locs h I => ?_)
          have I : kn_I D tc (kn_A w0 s.heap.size) s.heap [(kModel, ad_m, _)] _ _ := I
          refine lv_bipush (v := (37)) hx hb (kn_dec tX9_term 17 rfl) (by decide) ?_
          refine lv_icmp_ne (tgt := 100) hx hb (kn_dec tX9_term 18 rfl) (by decide) (fun c10 => ?_) (fun c10 => ?_)
          · have h := h.1 c10
            exact kw_vret hx hb hr hlocks I _ rfl h (kn_dec tX9_term 48 rfl)
          · have h := h.2 c10
            exact wX9_term_b42 X ih _ _ _ _  I (lv_sub hl [0] rfl) h
def PX9_term  (v_m : OV) (post : OV → Prop) : Prop := (PX9_value v_m (fun v_m1 => (PX9_blanks v_m1 (fun v_m3 => (∃ n5 : Nat, PX9_term_L8 post n5 v_m3)))))
set_option maxRecDepth 100000 in
set_option maxHeartbeats 1000000 in
theorem ctX9_term {l : Launch} {D : va_G} {tc : Nat → ClassId} {Z : (Nat → Nat) × (Nat → Nat)}  {ad_m : Nat → Nat} {v_m : OV}    {post : OV → Prop} (h : PX9_term  v_m post) : CTv l D tc Z yX9_term (Cond.code yX9_term cX9_term 2 none :: kn_all) rmX9_term 0 0 [.ref (ad_m 0)] [(kModel, ad_m, v_m)] (fun (u : OV) => [(kModel, ad_m, u)]) (fun (u : OV) => post u) := by
  refine kn_ofv (cc := cX9_term) (nL := 2) (ret := none) (lv := [(0, .ref (ad_m 0))]) (by decide) (Nat.le_of_ble_eq_true rfl) rfl (fun p e s m below meth c ls X I hl _ => ?_)
  obtain ⟨S0, hr, hlocks, hK, hZ, hA⟩ := id X
  obtain ⟨hx, hb, hml, hown, hts⟩ := id S0
  unfold PX9_term at h
  refine lv_aload_n hx hb (kn_dec tX9_term 0 rfl) rfl (lv_at hl 0 rfl) ?_
  refine kw_callv (wc := [(kModel, ad_m, _)]) (wr := []) I hA [0] [] rfl rfl (by decide) (by decide) (kn_runV (As := []) S0 hK hZ hA I ((ctX9_value h).met _) (kn_cwV 0 hts q6_36 q6_38 q0_48 q1_10 q6_39 rfl rfl (by decide +kernel) ⟨(Nat.le_of_ble_eq_true rfl), (Nat.le_of_ble_eq_true rfl)⟩) [0] rfl (by decide) 0 rfl rfl rfl rfl hl.1 rfl (Nat.le_of_ble_eq_true rfl) (kn_dec tX9_term 1 rfl) ⟨(Nat.le_of_ble_eq_true rfl), (Nat.le_of_ble_eq_true rfl)⟩) (fun u2 H locs h I => ?_)
  have I : kn_I D tc (kn_A _ s.heap.size) s.heap [(kModel, ad_m, _)] _ _ := I
  refine lv_aload_n hx hb (kn_dec tX9_term 2 rfl) rfl (lv_at hl 0 rfl) ?_
  refine kw_callv (wc := [(kModel, ad_m, _)]) (wr := []) I hA [0] [] rfl rfl (by decide) (by decide) (kn_runV (As := []) S0 hK hZ hA I ((ctX9_blanks h).met _) (kn_cwV 0 hts q5_191 q5_193 q0_33 q1_10 q5_194 rfl rfl (by decide +kernel) ⟨(Nat.le_of_ble_eq_true rfl), (Nat.le_of_ble_eq_true rfl)⟩) [0] rfl (by decide) 0 rfl rfl rfl rfl hl.1 rfl (Nat.le_of_ble_eq_true rfl) (kn_dec tX9_term 3 rfl) ⟨(Nat.le_of_ble_eq_true rfl), (Nat.le_of_ble_eq_true rfl)⟩) (fun u4 H locs h I => ?_)
  have I : kn_I D tc (kn_A _ s.heap.size) s.heap [(kModel, ad_m, _)] _ _ := I
  obtain ⟨n5, h⟩ := h
  exact wX9_term_L8 X n5 _ _ _ _  I (lv_sub hl [0] rfl) h

end
