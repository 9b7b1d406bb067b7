section
variable {p : Program} {l : Launch} {e : Env} {s : State} {m : MethodId} {args : Array Value} {below : List Frame} {meth : Method} {c : Code} {D : va_G} {tc : Nat → ClassId} {Z : (Nat → Nat) × (Nat → Nat)} {w0 : List CH}

/-! X5_takeBack -/
abbrev rmX5_takeBack : Room := { frames := 2, cells := 0, slots := 0, locals := 85 }
def PX5_takeBack  (v_c : OV) (v_s : OV) (v_pp : (Nat → OV)) (post : Int32 → OV → OV → Prop) : Prop := ((¬ (v_c.1 6) = ((0 : Int32)) → (∀ x2 : Int32, x2 = ((((v_c.1 5) + ((20 : Int32))) - ((1 : Int32))) - (((v_c.1 5) + ((20 : Int32))) - ((1 : Int32))) / ((20 : Int32)) * ((20 : Int32))) → (∀ v_c3 : OV, v_c3 = si v_c 5 x2 → (vp_in (v_c3.1 5) 20 ∧ ((v_c3.1 5).toNatClampNeg < 20 ∧ (PX6_copy v_s (v_pp ((v_c3.1 5).toNatClampNeg)) (fun v_s6 => (∀ x8 : Int32, x8 = ((v_c3.1 6) - ((1 : Int32))) → (∀ v_c9 : OV, v_c9 = si v_c3 6 x8 → post ((1 : Int32)) v_c9 v_s6))))))))) ∧ ((v_c.1 6) = ((0 : Int32)) → post ((0 : Int32)) v_c v_s))
set_option maxRecDepth 100000 in
set_option maxHeartbeats 1000000 in
theorem ctX5_takeBack {l : Launch} {D : va_G} {tc : Nat → ClassId} {Z : (Nat → Nat) × (Nat → Nat)}  {ad_c : Nat → Nat} {ad_s : Nat → Nat} {ad_pp : Nat → Nat → Nat} {v_c : OV} {v_s : OV} {v_pp : (Nat → OV)} (e_c_3 : ad_c (3 + 1) = ad_s 0) (p_c_4 : ∀ i, i < 20 → kn_q ad_c 4 i = some (ad_pp i 0))   {post : Int32 → OV → OV → Prop} (h : PX5_takeBack  v_c v_s v_pp post) : CTi l D tc Z yX5_takeBack (Cond.code yX5_takeBack cX5_takeBack 1 (some .boolean) :: kn_all) rmX5_takeBack 0 0 [.ref (ad_c 0)] (List.flatten [[(kScene, ad_c, v_c)], [(kState, ad_s, v_s)], kn_pool kState 20 ad_pp v_pp]) (fun (u : OV × OV) => (List.flatten [[(kScene, ad_c, u.1)], [(kState, ad_s, u.2)], kn_pool kState 20 ad_pp v_pp])) (fun (r : Int32) (u : OV × OV) => (r = 0 ∨ r = 1) ∧ post r u.1 u.2) := by
  refine kn_ofi (cc := cX5_takeBack) (nL := 1) (ret := (some .boolean)) (lv := [(0, .ref (ad_c 0))]) (by decide) (Nat.le_of_ble_eq_true rfl) rfl (fun p e s m below meth c ls X I hl _ => ?_)
  obtain ⟨S0, hr, hlocks, hK, hZ, hA⟩ := id X
  obtain ⟨hx, hb, hml, hown, hts⟩ := id S0
  unfold PX5_takeBack at h
  refine lv_aload_n hx hb (kn_dec tX5_takeBack 0 rfl) rfl (lv_at hl 0 rfl) ?_
  refine kw_geti hx hb hts inX5 hown hK I 0 rfl rfl 6 (by decide) rfl (hts _ q2_37) (kn_dec tX5_takeBack 1 rfl) ?_
  refine lv_if_ne (tgt := 9) hx hb (kn_dec tX5_takeBack 2 rfl) (by decide) (fun c1 => ?_) (fun c1 => ?_)
  · have h := h.1 c1
    refine lv_aload_n hx hb (kn_dec tX5_takeBack 5 rfl) rfl (lv_at hl 0 rfl) ?_
    refine lv_aload_n hx hb (kn_dec tX5_takeBack 6 rfl) rfl (lv_at hl 0 rfl) ?_
    refine kw_geti hx hb hts inX5 hown hK I 0 rfl rfl 5 (by decide) rfl (hts _ q2_36) (kn_dec tX5_takeBack 7 rfl) ?_
    refine lv_bipush (v := (20)) hx hb (kn_dec tX5_takeBack 8 rfl) (by decide) ?_
    refine lv_iadd hx hb (kn_dec tX5_takeBack 9 rfl) ?_
    refine lv_iconst (v := (1)) hx hb (kn_dec tX5_takeBack 10 rfl) (by decide) ?_
    refine lv_isub hx hb (kn_dec tX5_takeBack 11 rfl) ?_
    refine lv_bipush (v := (20)) hx hb (kn_dec tX5_takeBack 12 rfl) (by decide) ?_
    refine lv_irem hx hb (kn_dec tX5_takeBack 13 rfl) (by decide) ?_
    refine lv_topi (fun x2 ex2 => ?_)
    have h := h x2 ex2
    refine kw_puti hx hb hts inX5 tyX5 tyX5_ok nmX5 hown hK I 0 rfl rfl 5 (by decide) rfl (hts _ q2_36) rfl rfl rfl (kn_dec tX5_takeBack 14 rfl) (fun v_c3 ev_c3 H locs I => ?_)
    have h := h v_c3 ev_c3
    have I : kn_I D tc (kn_A _ s.heap.size) s.heap (List.flatten [[(kScene, ad_c, _)], [(kState, ad_s, _)], kn_pool kState 20 ad_pp _]) _ _ := I
    refine lv_aload_n hx hb (kn_dec tX5_takeBack 15 rfl) rfl (lv_at hl 0 rfl) ?_
    refine kw_getl hx hb hts inX5 hown hK I 0 rfl rfl 3 (by decide) rfl (hts _ q2_33) (kn_dec tX5_takeBack 16 rfl) e_c_3 ?_
    refine lv_aload_n hx hb (kn_dec tX5_takeBack 17 rfl) rfl (lv_at hl 0 rfl) ?_
    refine kw_getl hx hb hts inX5 hown hK I 0 rfl rfl 4 (by decide) rfl (hts _ q2_35) (kn_dec tX5_takeBack 18 rfl) rfl ?_
    refine lv_aload_n hx hb (kn_dec tX5_takeBack 19 rfl) rfl (lv_at hl 0 rfl) ?_
    refine kw_geti hx hb hts inX5 hown hK I 0 rfl rfl 5 (by decide) rfl (hts _ q2_36) (kn_dec tX5_takeBack 20 rfl) ?_
    obtain ⟨hs4, h⟩ := h
    obtain ⟨hp5, h⟩ := h
    refine kw_qald hx hb hK I 0 rfl 4 0 20 (List.mem_of_getElem? (i := 0) rfl) rfl hs4 (kn_dec tX5_takeBack 21 rfl) (p_c_4 _ hp5) ?_
    have I : kn_I D tc (kn_A _ s.heap.size) s.heap (List.flatten [[(kState, ad_pp ((v_c3.1 5).toNatClampNeg), _)], kn_rest kState 20 ad_pp _ ((v_c3.1 5).toNatClampNeg), [(kScene, ad_c, _)], [(kState, ad_s, _)]]) _ _ := I.perm ((kn_seg (segs := [[(kScene, ad_c, _)], [(kState, ad_s, _)], kn_pool kState 20 ad_pp _]) (segs' := [kn_pool kState 20 ad_pp _, [(kScene, ad_c, _)], [(kState, ad_s, _)]]) [2, 0, 1] rfl rfl).trans (kn_focus hp5))
    have I : kn_I D tc (kn_A _ s.heap.size) s.heap ([(kState, ad_s, _), (kState, ad_pp ((v_c3.1 5).toNatClampNeg), _)] ++ (List.flatten [kn_rest kState 20 ad_pp _ ((v_c3.1 5).toNatClampNeg), [(kScene, ad_c, _)]])) _ _ := I.perm (kn_segA (segs := [[(kState, ad_pp ((v_c3.1 5).toNatClampNeg), _)], kn_rest kState 20 ad_pp _ ((v_c3.1 5).toNatClampNeg), [(kScene, ad_c, _)], [(kState, ad_s, _)]]) (sC := [[(kState, ad_s, _)], [(kState, ad_pp ((v_c3.1 5).toNatClampNeg), _)]]) (sR := [kn_rest kState 20 ad_pp _ ((v_c3.1 5).toNatClampNeg), [(kScene, ad_c, _)]]) [3, 0, 1, 2] rfl rfl)
    refine kw_callv (wc := [(kState, ad_s, _), (kState, ad_pp ((v_c3.1 5).toNatClampNeg), _)]) (wr := (List.flatten [kn_rest kState 20 ad_pp _ ((v_c3.1 5).toNatClampNeg), [(kScene, ad_c, _)]])) I hA (kn_pl1 _ _) (kn_pl2 _ _) (kn_pl1_ok _ _) (kn_pl2_ok _ _) (kn_pl2_nd _ _) (kn_pl_dis _ _) (kn_runV (As := [.ref (ad_pp ((v_c3.1 5).toNatClampNeg) 0)]) S0 hK hZ hA I ((ctX6_copy h).met _) (kn_cwV 1 hts q3_170 q3_171 q3_172 q1_8 q3_173 rfl rfl (by decide +kernel) ⟨(Nat.le_of_ble_eq_true rfl), (Nat.le_of_ble_eq_true rfl)⟩) (kn_pl1 _ _) (kn_pl1_ok _ _) (kn_pl1_nd _ _) 0 rfl rfl rfl rfl hl.1 rfl (Nat.le_of_ble_eq_true rfl) (kn_dec tX5_takeBack 22 rfl) ⟨(Nat.le_of_ble_eq_true rfl), (Nat.le_of_ble_eq_true rfl)⟩) (fun u7 H locs h I => ?_)
    have I : kn_I D tc (kn_A _ s.heap.size) s.heap (List.flatten [[(kScene, ad_c, _)], [(kState, ad_s, _)], kn_pool kState 20 ad_pp _]) _ _ := I.perm ((kn_segB (sC := [kn_rest kState 20 ad_pp _ ((v_c3.1 5).toNatClampNeg), [(kScene, ad_c, _)]]) (sR := [[(kState, ad_s, _)], [(kState, ad_pp ((v_c3.1 5).toNatClampNeg), _)]]) (segs := [[(kState, ad_pp ((v_c3.1 5).toNatClampNeg), _)], kn_rest kState 20 ad_pp _ ((v_c3.1 5).toNatClampNeg), [(kScene, ad_c, _)], [(kState, ad_s, _)]]) [3, 0, 1, 2] rfl rfl).trans ((kn_unfocus0 hp5).trans (kn_seg (segs := [kn_pool kState 20 ad_pp _, [(kScene, ad_c, _)], [(kState, ad_s, _)]]) (segs' := [[(kScene, ad_c, _)], [(kState, ad_s, _)], kn_pool kState 20 ad_pp _]) [1, 2, 0] rfl rfl)))
    refine lv_aload_n hx hb (kn_dec tX5_takeBack 23 rfl) rfl (lv_at hl 0 rfl) ?_
    refine lv_dup hx hb (kn_dec tX5_takeBack 24 rfl) rfl ?_
    refine kw_geti hx hb hts inX5 hown hK I 0 rfl rfl 6 (by decide) rfl (hts _ q2_37) (kn_dec tX5_takeBack 25 rfl) ?_
    refine lv_iconst (v := (1)) hx hb (kn_dec tX5_takeBack 26 rfl) (by decide) ?_
    refine lv_isub hx hb (kn_dec tX5_takeBack 27 rfl) ?_
    refine lv_topi (fun x8 ex8 => ?_)
    have h := h x8 ex8
    refine kw_puti hx hb hts inX5 tyX5 tyX5_ok nmX5 hown hK I 0 rfl rfl 6 (by decide) rfl (hts _ q2_37) rfl rfl rfl (kn_dec tX5_takeBack 28 rfl) (fun v_c9 ev_c9 H locs I => ?_)
    have h := h v_c9 ev_c9
    have I : kn_I D tc (kn_A _ s.heap.size) s.heap (List.flatten [[(kScene, ad_c, _)], [(kState, ad_s, _)], kn_pool kState 20 ad_pp _]) _ _ := I
    refine lv_iconst (v := (1)) hx hb (kn_dec tX5_takeBack 29 rfl) (by decide) ?_
    exact kw_zret hx hb hr (kn_nz (Or.inr rfl)) hlocks I (v_c9, u7) rfl ⟨(Or.inr rfl), h⟩ (kn_dec tX5_takeBack 30 rfl)
  · have h := h.2 c1
    refine lv_iconst (v := (0)) hx hb (kn_dec tX5_takeBack 3 rfl) (by decide) ?_
    exact kw_zret hx hb hr (kn_nz (Or.inl rfl)) hlocks I (v_c, v_s) rfl ⟨(Or.inl rfl), h⟩ (kn_dec tX5_takeBack 4 rfl)

/-! X5_copy -/
abbrev rmX5_copy : Room := { frames := 2, cells := 0, slots := 0, locals := 85 }
def PX5_copy_L37 (v_d : OV) (v_z : OV) (v_qq : (Nat → OV))  (post : OV → OV → (Nat → OV) → Prop) : Nat → Int32 → OV → OV → (Nat → OV) → Prop
  | 0, _, _, _, _ => False
  | n + 1, y2, v_c, v_s, v_pp => ((((20 : Int32)) ≤ y2 → (∀ x2 : Int32, x2 = (v_d.1 5) → (∀ v_c3 : OV, v_c3 = si v_c 5 x2 → (∀ x4 : Int32, x4 = (v_d.1 6) → (∀ v_c5 : OV, v_c5 = si v_c3 6 x4 → (∀ x6 : Int32, x6 = (v_d.1 7) → (∀ v_c7 : OV, v_c7 = si v_c5 7 x6 → (∀ v_c8 : OV, v_c8 = sa v_c7 8 (va_cpy (v_d.2.1 8) (v_c7.2.1 8) ((0 : Int32)).toNatClampNeg ((0 : Int32)).toNatClampNeg ((10 : Int32)).toNatClampNeg) → (∀ v_c9 : OV, v_c9 = sa v_c8 9 (va_cpy (v_d.2.1 9) (v_c8.2.1 9) ((0 : Int32)).toNatClampNeg ((0 : Int32)).toNatClampNeg ((10 : Int32)).toNatClampNeg) → post v_c9 v_s v_pp))))))))) ∧ (¬ ((20 : Int32)) ≤ y2 → (vp_in y2 20 ∧ (y2.toNatClampNeg < 20 ∧ (vp_in y2 20 ∧ (y2.toNatClampNeg < 20 ∧ (PX6_copy (v_pp y2.toNatClampNeg) (v_qq y2.toNatClampNeg) (fun v_pp14 => (∀ x16 : Int32, x16 = y2 + (1 : Int32) → PX5_copy_L37 v_d v_z v_qq post n x16 v_c v_s (va_up v_pp y2.toNatClampNeg v_pp14))))))))))
set_option maxRecDepth 100000 in
set_option maxHeartbeats 1000000 in
theorem wX5_copy_L37 {v_d : OV} {v_z : OV} {v_qq : (Nat → OV)}  {post : OV → OV → (Nat → OV) → Prop} {ad_c : Nat → Nat} {ad_s : Nat → Nat} {ad_d : Nat → Nat} {ad_z : Nat → Nat} {ad_pp : Nat → Nat → Nat} {ad_qq : Nat → Nat → Nat} (X : kn_X p s m args meth c cX5_copy 3 none RX5 kn_all D tc Z (kn_A w0 s.heap.size)) (e_c_3 : ad_c (3 + 1) = ad_s 0) (e_d_3 : ad_d (3 + 1) = ad_z 0) (p_c_4 : ∀ i, i < 20 → kn_q ad_c 4 i = some (ad_pp i 0)) (p_d_4 : ∀ i, i < 20 → kn_q ad_d 4 i = some (ad_qq i 0))   : ∀ n : Nat, ∀ (H : Heap) (locs : List Loc) (ls : Array Slot) (y2 : Int32) (v_c : OV) (v_s : OV) (v_pp : (Nat → OV)), kn_I D tc (kn_A w0 s.heap.size) s.heap (List.flatten [[(kScene, ad_c, v_c)], [(kState, ad_s, v_s)], [(kScene, ad_d, v_d)], [(kState, ad_z, v_z)], kn_pool kState 20 ad_pp v_pp, kn_pool kState 20 ad_qq v_qq]) H locs → lv_has ls 3 [(0, .ref (ad_c 0)), (1, .ref (ad_d 0)), (2, .int y2)] → PX5_copy_L37 v_d v_z v_qq post n y2 v_c v_s v_pp → W p l e rmX5_copy s m args below meth c H locs 0 0 (kn_Qv D tc w0 (fun (u : OV × OV × (Nat → OV)) => (List.flatten [[(kScene, ad_c, u.1)], [(kState, ad_s, u.2.1)], [(kScene, ad_d, v_d)], [(kState, ad_z, v_z)], kn_pool kState 20 ad_pp u.2.2, kn_pool kState 20 ad_qq v_qq])) (fun (u : OV × OV × (Nat → OV)) => post u.1 u.2.1 u.2.2) below args s 0 0) (F0 m 37 ls []) := by
  obtain ⟨S0, hr, hlocks, hK, hZ, hA⟩ := id X
  obtain ⟨hx, hb, hml, hown, hts⟩ := id S0
  intro n
  induction n with
  | zero =>
    intro H locs ls y2 v_c v_s v_pp I hl h
    unfold PX5_copy_L37 at h
    exact h.elim
  | succ n ih =>
    intro H locs ls y2 v_c v_s v_pp I hl h
    unfold PX5_copy_L37 at h
    refine lv_iload_n hx hb (kn_dec tX5_copy 19 rfl) rfl (lv_at hl 2 rfl) ?_
    refine lv_bipush (v := (20)) hx hb (kn_dec tX5_copy 20 rfl) (by decide) ?_
    refine lv_icmp_ge (tgt := 64) hx hb (kn_dec tX5_copy 21 rfl) (by decide) (fun c1 => ?_) (fun c1 => ?_)
    · have h := h.1 c1
      refine lv_aload_n hx hb (kn_dec tX5_copy 33 rfl) rfl (lv_at hl 0 rfl) ?_
      refine lv_aload_n hx hb (kn_dec tX5_copy 34 rfl) rfl (lv_at hl 1 rfl) ?_
      refine kw_geti hx hb hts inX5 hown hK I 2 rfl rfl 5 (by decide) rfl (hts _ q2_36) (kn_dec tX5_copy 35 rfl) ?_
      refine lv_topi (fun x2 ex2 => ?_)
      have h := h x2 ex2
      refine kw_puti hx hb hts inX5 tyX5 tyX5_ok nmX5 hown hK I 0 rfl rfl 5 (by decide) rfl (hts _ q2_36) rfl rfl rfl (kn_dec tX5_copy 36 rfl) (fun v_c3 ev_c3 H locs I => ?_)
      have h := h v_c3 ev_c3
      have I : kn_I D tc (kn_A w0 s.heap.size) s.heap (List.flatten [[(kScene, ad_c, _)], [(kState, ad_s, _)], [(kScene, ad_d, _)], [(kState, ad_z, _)], kn_pool kState 20 ad_pp _, kn_pool kState 20 ad_qq _]) _ _ := I
      refine lv_aload_n hx hb (kn_dec tX5_copy 37 rfl) rfl (lv_at hl 0 rfl) ?_
      refine lv_aload_n hx hb (kn_dec tX5_copy 38 rfl) rfl (lv_at hl 1 rfl) ?_
      refine kw_geti hx hb hts inX5 hown hK I 2 rfl rfl 6 (by decide) rfl (hts _ q2_37) (kn_dec tX5_copy 39 rfl) ?_
      refine lv_topi (fun x4 ex4 => ?_)
      have h := h x4 ex4
      refine kw_puti hx hb hts inX5 tyX5 tyX5_ok nmX5 hown hK I 0 rfl rfl 6 (by decide) rfl (hts _ q2_37) rfl rfl rfl (kn_dec tX5_copy 40 rfl) (fun v_c5 ev_c5 H locs I => ?_)
      have h := h v_c5 ev_c5
      have I : kn_I D tc (kn_A w0 s.heap.size) s.heap (List.flatten [[(kScene, ad_c, _)], [(kState, ad_s, _)], [(kScene, ad_d, _)], [(kState, ad_z, _)], kn_pool kState 20 ad_pp _, kn_pool kState 20 ad_qq _]) _ _ := I
      refine lv_aload_n hx hb (kn_dec tX5_copy 41 rfl) rfl (lv_at hl 0 rfl) ?_
      refine lv_aload_n hx hb (kn_dec tX5_copy 42 rfl) rfl (lv_at hl 1 rfl) ?_
      refine kw_geti hx hb hts inX5 hown hK I 2 rfl rfl 7 (by decide) rfl (hts _ q2_39) (kn_dec tX5_copy 43 rfl) ?_
      refine lv_topi (fun x6 ex6 => ?_)
      have h := h x6 ex6
      refine kw_puti hx hb hts inX5 tyX5 tyX5_ok nmX5 hown hK I 0 rfl rfl 7 (by decide) rfl (hts _ q2_39) rfl rfl rfl (kn_dec tX5_copy 44 rfl) (fun v_c7 ev_c7 H locs I => ?_)
      have h := h v_c7 ev_c7
      have I : kn_I D tc (kn_A w0 s.heap.size) s.heap (List.flatten [[(kScene, ad_c, _)], [(kState, ad_s, _)], [(kScene, ad_d, _)], [(kState, ad_z, _)], kn_pool kState 20 ad_pp _, kn_pool kState 20 ad_qq _]) _ _ := I
      refine lv_aload_n hx hb (kn_dec tX5_copy 45 rfl) rfl (lv_at hl 1 rfl) ?_
      refine kw_getl hx hb hts inX5 hown hK I 2 rfl rfl 8 (by decide) rfl (hts _ q2_41) (kn_dec tX5_copy 46 rfl) rfl ?_
      refine lv_iconst (v := (0)) hx hb (kn_dec tX5_copy 47 rfl) (by decide) ?_
      refine lv_aload_n hx hb (kn_dec tX5_copy 48 rfl) rfl (lv_at hl 0 rfl) ?_
      refine kw_getl hx hb hts inX5 hown hK I 0 rfl rfl 8 (by decide) rfl (hts _ q2_41) (kn_dec tX5_copy 49 rfl) rfl ?_
      refine lv_iconst (v := (0)) hx hb (kn_dec tX5_copy 50 rfl) (by decide) ?_
      refine lv_bipush (v := (10)) hx hb (kn_dec tX5_copy 51 rfl) (by decide) ?_
      refine kw_copy hx hb (hml.trans hl.1.symm) hown (hts _ q4_190) (hts _ q3_41) (hts _ q3_40) (hts _ q1_16) hK I 2 0 rfl rfl 8 10 8 10 (List.mem_of_getElem? (i := 1) rfl) (List.mem_of_getElem? (i := 1) rfl) ukScene_8 (by decide) (by decide) (by decide) (by decide) (by decide) (Nat.le_of_ble_eq_true rfl) (Nat.le_of_ble_eq_true rfl) (kn_dec tX5_copy 52 rfl) (fun v_c8 ev_c8 H locs I => ?_)
      have h := h v_c8 ev_c8
      have I : kn_I D tc (kn_A w0 s.heap.size) s.heap (List.flatten [[(kScene, ad_c, _)], [(kState, ad_s, _)], [(kScene, ad_d, _)], [(kState, ad_z, _)], kn_pool kState 20 ad_pp _, kn_pool kState 20 ad_qq _]) _ _ := I
      refine lv_aload_n hx hb (kn_dec tX5_copy 53 rfl) rfl (lv_at hl 1 rfl) ?_
      refine kw_getl hx hb hts inX5 hown hK I 2 rfl rfl 9 (by decide) rfl (hts _ q2_43) (kn_dec tX5_copy 54 rfl) rfl ?_
      refine lv_iconst (v := (0)) hx hb (kn_dec tX5_copy 55 rfl) (by decide) ?_
      refine lv_aload_n hx hb (kn_dec tX5_copy 56 rfl) rfl (lv_at hl 0 rfl) ?_
      refine kw_getl hx hb hts inX5 hown hK I 0 rfl rfl 9 (by decide) rfl (hts _ q2_43) (kn_dec tX5_copy 57 rfl) rfl ?_
      refine lv_iconst (v := (0)) hx hb (kn_dec tX5_copy 58 rfl) (by decide) ?_
      refine lv_bipush (v := (10)) hx hb (kn_dec tX5_copy 59 rfl) (by decide) ?_
      refine kw_copy hx hb (hml.trans hl.1.symm) hown (hts _ q4_190) (hts _ q3_41) (hts _ q3_40) (hts _ q1_16) hK I 2 0 rfl rfl 9 10 9 10 (List.mem_of_getElem? (i := 2) rfl) (List.mem_of_getElem? (i := 2) rfl) ukScene_9 (by decide) (by decide) (by decide) (by decide) (by decide) (Nat.le_of_ble_eq_true rfl) (Nat.le_of_ble_eq_true rfl) (kn_dec tX5_copy 60 rfl) (fun v_c9 ev_c9 H locs I => ?_)
      have h := h v_c9 ev_c9
      have I : kn_I D tc (kn_A w0 s.heap.size) s.heap (List.flatten [[(kScene, ad_c, _)], [(kState, ad_s, _)], [(kScene, ad_d, _)], [(kState, ad_z, _)], kn_pool kState 20 ad_pp _, kn_pool kState 20 ad_qq _]) _ _ := I
      exact kw_vret hx hb hr hlocks I (v_c9, v_s, v_pp) rfl h (kn_dec tX5_copy 61 rfl)
    · have h := h.2 c1
      refine lv_aload_n hx hb (kn_dec tX5_copy 22 rfl) rfl (lv_at hl 0 rfl) ?_
      refine kw_getl hx hb hts inX5 hown hK I 0 rfl rfl 4 (by decide) rfl (hts _ q2_35) (kn_dec tX5_copy 23 rfl) rfl ?_
      refine lv_iload_n hx hb (kn_dec tX5_copy 24 rfl) rfl (lv_at hl 2 rfl) ?_
      obtain ⟨hs10, h⟩ := h
      obtain ⟨hp11, h⟩ := h
      refine kw_qald hx hb hK I 0 rfl 4 0 20 (List.mem_of_getElem? (i := 0) rfl) rfl hs10 (kn_dec tX5_copy 25 rfl) (p_c_4 _ hp11) ?_
      refine lv_aload_n hx hb (kn_dec tX5_copy 26 rfl) rfl (lv_at hl 1 rfl) ?_
      refine kw_getl hx hb hts inX5 hown hK I 2 rfl rfl 4 (by decide) rfl (hts _ q2_35) (kn_dec tX5_copy 27 rfl) rfl ?_
      refine lv_iload_n hx hb (kn_dec tX5_copy 28 rfl) rfl (lv_at hl 2 rfl) ?_
      obtain ⟨hs12, h⟩ := h
      obtain ⟨hp13, h⟩ := h
      refine kw_qald hx hb hK I 2 rfl 4 0 20 (List.mem_of_getElem? (i := 0) rfl) rfl hs12 (kn_dec tX5_copy 29 rfl) (p_d_4 _ hp13) ?_
      have I : kn_I D tc (kn_A w0 s.heap.size) s.heap (List.flatten [[(kState, ad_pp y2.toNatClampNeg, _)], kn_rest kState 20 ad_pp _ y2.toNatClampNeg, [(kScene, ad_c, _)], [(kState, ad_s, _)], [(kScene, ad_d, _)], [(kState, ad_z, _)], kn_pool kState 20 ad_qq _]) _ _ := I.perm ((kn_seg (segs := [[(kScene, ad_c, _)], [(kState, ad_s, _)], [(kScene, ad_d, _)], [(kState, ad_z, _)], kn_pool kState 20 ad_pp _, kn_pool kState 20 ad_qq _]) (segs' := [kn_pool kState 20 ad_pp _, [(kScene, ad_c, _)], [(kState, ad_s, _)], [(kScene, ad_d, _)], [(kState, ad_z, _)], kn_pool kState 20 ad_qq _]) [4, 0, 1, 2, 3, 5] rfl rfl).trans (kn_focus hp11))
      have I : kn_I D tc (kn_A w0 s.heap.size) s.heap (List.flatten [[(kState, ad_qq y2.toNatClampNeg, _)], kn_rest kState 20 ad_qq _ y2.toNatClampNeg, [(kState, ad_pp y2.toNatClampNeg, _)], kn_rest kState 20 ad_pp _ y2.toNatClampNeg, [(kScene, ad_c, _)], [(kState, ad_s, _)], [(kScene, ad_d, _)], [(kState, ad_z, _)]]) _ _ := I.perm ((kn_seg (segs := [[(kState, ad_pp y2.toNatClampNeg, _)], kn_rest kState 20 ad_pp _ y2.toNatClampNeg, [(kScene, ad_c, _)], [(kState, ad_s, _)], [(kScene, ad_d, _)], [(kState, ad_z, _)], kn_pool kState 20 ad_qq _]) (segs' := [kn_pool kState 20 ad_qq _, [(kState, ad_pp y2.toNatClampNeg, _)], kn_rest kState 20 ad_pp _ y2.toNatClampNeg, [(kScene, ad_c, _)], [(kState, ad_s, _)], [(kScene, ad_d, _)], [(kState, ad_z, _)]]) [6, 0, 1, 2, 3, 4, 5] rfl rfl).trans (kn_focus hp13))
      have I : kn_I D tc (kn_A w0 s.heap.size) s.heap ([(kState, ad_pp y2.toNatClampNeg, _), (kState, ad_qq y2.toNatClampNeg, _)] ++ (List.flatten [kn_rest kState 20 ad_qq _ y2.toNatClampNeg, kn_rest kState 20 ad_pp _ y2.toNatClampNeg, [(kScene, ad_c, _)], [(kState, ad_s, _)], [(kScene, ad_d, _)], [(kState, ad_z, _)]])) _ _ := I.perm (kn_segA (segs := [[(kState, ad_qq y2.toNatClampNeg, _)], kn_rest kState 20 ad_qq _ y2.toNatClampNeg, [(kState, ad_pp y2.toNatClampNeg, _)], kn_rest kState 20 ad_pp _ y2.toNatClampNeg, [(kScene, ad_c, _)], [(kState, ad_s, _)], [(kScene, ad_d, _)], [(kState, ad_z, _)]]) (sC := [[(kState, ad_pp y2.toNatClampNeg, _)], [(kState, ad_qq y2.toNatClampNeg, _)]]) (sR := [kn_rest kState 20 ad_qq _ y2.toNatClampNeg, kn_rest kState 20 ad_pp _ y2.toNatClampNeg, [(kScene, ad_c, _)], [(kState, ad_s, _)], [(kScene, ad_d, _)], [(kState, ad_z, _)]]) [2, 0, 1, 3, 4, 5, 6, 7] rfl rfl)
      refine kw_callv (wc := [(kState, ad_pp y2.toNatClampNeg, _), (kState, ad_qq y2.toNatClampNeg, _)]) (wr := (List.flatten [kn_rest kState 20 ad_qq _ y2.toNatClampNeg, kn_rest kState 20 ad_pp _ y2.toNatClampNeg, [(kScene, ad_c, _)], [(kState, ad_s, _)], [(kScene, ad_d, _)], [(kState, ad_z, _)]])) I hA (kn_pl1 _ _) (kn_pl2 _ _) (kn_pl1_ok _ _) (kn_pl2_ok _ _) (kn_pl2_nd _ _) (kn_pl_dis _ _) (kn_runV (As := [.ref (ad_qq y2.toNatClampNeg 0)]) S0 hK hZ hA I ((ctX6_copy h).met _) (kn_cwV 1 hts q3_170 q3_171 q3_172 q1_8 q3_173 rfl rfl (by decide +kernel) ⟨(Nat.le_of_ble_eq_true rfl), (Nat.le_of_ble_eq_true rfl)⟩) (kn_pl1 _ _) (kn_pl1_ok _ _) (kn_pl1_nd _ _) 0 rfl rfl rfl rfl hl.1 rfl (Nat.le_of_ble_eq_true rfl) (kn_dec tX5_copy 30 rfl) ⟨(Nat.le_of_ble_eq_true rfl), (Nat.le_of_ble_eq_true rfl)⟩) (fun u15 H locs h I => ?_)
      have I : kn_I D tc (kn_A w0 s.heap.size) s.heap (List.flatten [[(kScene, ad_c, _)], [(kState, ad_s, _)], [(kScene, ad_d, _)], [(kState, ad_z, _)], kn_pool kState 20 ad_pp _, kn_pool kState 20 ad_qq _]) _ _ := I.perm (((kn_segB (sC := [kn_rest kState 20 ad_qq _ y2.toNatClampNeg, kn_rest kState 20 ad_pp _ y2.toNatClampNeg, [(kScene, ad_c, _)], [(kState, ad_s, _)], [(kScene, ad_d, _)], [(kState, ad_z, _)]]) (sR := [[(kState, ad_pp y2.toNatClampNeg, _)], [(kState, ad_qq y2.toNatClampNeg, _)]]) (segs := [[(kState, ad_qq y2.toNatClampNeg, _)], kn_rest kState 20 ad_qq _ y2.toNatClampNeg, [(kState, ad_pp y2.toNatClampNeg, _)], kn_rest kState 20 ad_pp _ y2.toNatClampNeg, [(kScene, ad_c, _)], [(kState, ad_s, _)], [(kScene, ad_d, _)], [(kState, ad_z, _)]]) [7, 0, 6, 1, 2, 3, 4, 5] rfl rfl).trans ((kn_unfocus0 hp13).trans (kn_seg (segs := [kn_pool kState 20 ad_qq _, [(kState, ad_pp y2.toNatClampNeg, _)], kn_rest kState 20 ad_pp _ y2.toNatClampNeg, [(kScene, ad_c, _)], [(kState, ad_s, _)], [(kScene, ad_d, _)], [(kState, ad_z, _)]]) (segs' := [[(kState, ad_pp y2.toNatClampNeg, _)], kn_rest kState 20 ad_pp _ y2.toNatClampNeg, [(kScene, ad_c, _)], [(kState, ad_s, _)], [(kScene, ad_d, _)], [(kState, ad_z, _)], kn_pool kState 20 ad_qq _]) [1, 2, 3, 4, 5, 6, 0] rfl rfl))).trans ((kn_unfocus hp11).trans (kn_seg (segs := [kn_pool kState 20 ad_pp _, [(kScene, ad_c, _)], [(kState, ad_s, _)], [(kScene, ad_d, _)], [(kState, ad_z, _)], kn_pool kState 20 ad_qq _]) (segs' := [[(kScene, ad_c, _)], [(kState, ad_s, _)], [(kScene, ad_d, _)], [(kState, ad_z, _)], kn_pool kState 20 ad_pp _, kn_pool kState 20 ad_qq _]) [1, 2, 3, 4, 0, 5] rfl rfl)))
      refine kw_iinc (lvf := fun y => [(2, .int y), (0, .ref (ad_c 0)), (1, .ref (ad_d 0))]) (nv := (1)) hx hb (kn_dec tX5_copy 31 rfl) hl (k := 2) rfl (by decide) (by decide) (fun _ => rfl) (fun x16 ex16 ls hl => ?_)
      have h := h x16 ex16
      refine lv_goto (tgt := 37) hx hb (kn_dec tX5_copy 32 rfl) (by decide) ?_
      exact ih _ _ _ _ _ _ _  I (lv_sub hl [1, 2, 0] rfl) h
def PX5_copy  (v_c : OV) (v_s : OV) (v_d : OV) (v_z : OV) (v_pp : (Nat → OV)) (v_qq : (Nat → OV)) (post : OV → OV → (Nat → OV) → Prop) : Prop := (∀ x1 : Int32, x1 = (v_d.1 1) → (∀ v_c2 : OV, v_c2 = si v_c 1 x1 → (∀ x3 : Int32, x3 = (v_d.1 2) → (∀ v_c4 : OV, v_c4 = si v_c2 2 x3 → (PX6_copy v_s v_z (fun v_s5 => (∃ n7 : Nat, PX5_copy_L37 v_d v_z v_qq post n7 ((0 : Int32)) v_c4 v_s5 v_pp)))))))
set_option maxRecDepth 100000 in
set_option maxHeartbeats 1000000 in
theorem ctX5_copy {l : Launch} {D : va_G} {tc : Nat → ClassId} {Z : (Nat → Nat) × (Nat → Nat)}  {ad_c : Nat → Nat} {ad_s : Nat → Nat} {ad_d : Nat → Nat} {ad_z : Nat → Nat} {ad_pp : Nat → Nat → Nat} {ad_qq : Nat → Nat → Nat} {v_c : OV} {v_s : OV} {v_d : OV} {v_z : OV} {v_pp : (Nat → OV)} {v_qq : (Nat → OV)} (e_c_3 : ad_c (3 + 1) = ad_s 0) (e_d_3 : ad_d (3 + 1) = ad_z 0) (p_c_4 : ∀ i, i < 20 → kn_q ad_c 4 i = some (ad_pp i 0)) (p_d_4 : ∀ i, i < 20 → kn_q ad_d 4 i = some (ad_qq i 0))   {post : OV → OV → (Nat → OV) → Prop} (h : PX5_copy  v_c v_s v_d v_z v_pp v_qq post) : CTv l D tc Z yX5_copy (Cond.code yX5_copy cX5_copy 3 none :: kn_all) rmX5_copy 0 0 [.ref (ad_c 0), .ref (ad_d 0)] (List.flatten [[(kScene, ad_c, v_c)], [(kState, ad_s, v_s)], [(kScene, ad_d, v_d)], [(kState, ad_z, v_z)], kn_pool kState 20 ad_pp v_pp, kn_pool kState 20 ad_qq v_qq]) (fun (u : OV × OV × (Nat → OV)) => (List.flatten [[(kScene, (kn_up ad_c 0 (ad_d (0 + 1))), u.1)], [(kState, ad_s, u.2.1)], [(kScene, ad_d, v_d)], [(kState, ad_z, v_z)], kn_pool kState 20 ad_pp u.2.2, kn_pool kState 20 ad_qq v_qq])) (fun (u : OV × OV × (Nat → OV)) => post u.1 u.2.1 u.2.2) := by
  refine kn_ofv (cc := cX5_copy) (nL := 3) (ret := none) (lv := [(0, .ref (ad_c 0)), (1, .ref (ad_d 0))]) (by decide) (Nat.le_of_ble_eq_true rfl) rfl (fun p e s m below meth c ls X I hl _ => ?_)
  obtain ⟨S0, hr, hlocks, hK, hZ, hA⟩ := id X
  obtain ⟨hx, hb, hml, hown, hts⟩ := id S0
  unfold PX5_copy at h
  refine lv_aload_n hx hb (kn_dec tX5_copy 0 rfl) rfl (lv_at hl 0 rfl) ?_
  refine lv_aload_n hx hb (kn_dec tX5_copy 1 rfl) rfl (lv_at hl 1 rfl) ?_
  refine kw_getl hx hb hts inX5 hown hK I 2 rfl rfl 0 (by decide) rfl (hts _ q2_27) (kn_dec tX5_copy 2 rfl) rfl ?_
  refine kw_putl hx hb hts inX5 tyX5 tyX5_ok nmX5 hown hK I 0 rfl rfl 0 (by decide) rfl nkScene_0 (by decide) (hts _ q2_27) rfl rfl rfl (kn_dec tX5_copy 3 rfl) (fun H locs I => ?_)
  have I : kn_I D tc (kn_A _ s.heap.size) s.heap (List.flatten [[(kScene, (kn_up ad_c 0 (ad_d (0 + 1))), _)], [(kState, ad_s, _)], [(kScene, ad_d, _)], [(kState, ad_z, _)], kn_pool kState 20 ad_pp _, kn_pool kState 20 ad_qq _]) _ _ := I
  refine lv_aload_n hx hb (kn_dec tX5_copy 4 rfl) rfl (lv_at hl 0 rfl) ?_
  refine lv_aload_n hx hb (kn_dec tX5_copy 5 rfl) rfl (lv_at hl 1 rfl) ?_
  refine kw_geti hx hb hts inX5 hown hK I 2 rfl rfl 1 (by decide) rfl (hts _ q2_29) (kn_dec tX5_copy 6 rfl) ?_
  refine lv_topi (fun x1 ex1 => ?_)
  have h := h x1 ex1
  refine kw_puti (ad := (kn_up ad_c 0 (ad_d (0 + 1)))) hx hb hts inX5 tyX5 tyX5_ok nmX5 hown hK I 0 rfl rfl 1 (by decide) rfl (hts _ q2_29) rfl rfl rfl (kn_dec tX5_copy 7 rfl) (fun v_c2 ev_c2 H locs I => ?_)
  have h := h v_c2 ev_c2
  have I : kn_I D tc (kn_A _ s.heap.size) s.heap (List.flatten [[(kScene, (kn_up ad_c 0 (ad_d (0 + 1))), _)], [(kState, ad_s, _)], [(kScene, ad_d, _)], [(kState, ad_z, _)], kn_pool kState 20 ad_pp _, kn_pool kState 20 ad_qq _]) _ _ := I
  refine lv_aload_n hx hb (kn_dec tX5_copy 8 rfl) rfl (lv_at hl 0 rfl) ?_
  refine lv_aload_n hx hb (kn_dec tX5_copy 9 rfl) rfl (lv_at hl 1 rfl) ?_
  refine kw_geti hx hb hts inX5 hown hK I 2 rfl rfl 2 (by decide) rfl (hts _ q2_31) (kn_dec tX5_copy 10 rfl) ?_
  refine lv_topi (fun x3 ex3 => ?_)
  have h := h x3 ex3
  refine kw_puti (ad := (kn_up ad_c 0 (ad_d (0 + 1)))) hx hb hts inX5 tyX5 tyX5_ok nmX5 hown hK I 0 rfl rfl 2 (by decide) rfl (hts _ q2_31) rfl rfl rfl (kn_dec tX5_copy 11 rfl) (fun v_c4 ev_c4 H locs I => ?_)
  have h := h v_c4 ev_c4
  have I : kn_I D tc (kn_A _ s.heap.size) s.heap (List.flatten [[(kScene, (kn_up ad_c 0 (ad_d (0 + 1))), _)], [(kState, ad_s, _)], [(kScene, ad_d, _)], [(kState, ad_z, _)], kn_pool kState 20 ad_pp _, kn_pool kState 20 ad_qq _]) _ _ := I
  refine lv_aload_n hx hb (kn_dec tX5_copy 12 rfl) rfl (lv_at hl 0 rfl) ?_
  refine kw_getl (ad := (kn_up ad_c 0 (ad_d (0 + 1)))) hx hb hts inX5 hown hK I 0 rfl rfl 3 (by decide) rfl (hts _ q2_33) (kn_dec tX5_copy 13 rfl) e_c_3 ?_
  refine lv_aload_n hx hb (kn_dec tX5_copy 14 rfl) rfl (lv_at hl 1 rfl) ?_
  refine kw_getl hx hb hts inX5 hown hK I 2 rfl rfl 3 (by decide) rfl (hts _ q2_33) (kn_dec tX5_copy 15 rfl) e_d_3 ?_
  have I : kn_I D tc (kn_A _ s.heap.size) s.heap ([(kState, ad_s, _), (kState, ad_z, _)] ++ (List.flatten [[(kScene, (kn_up ad_c 0 (ad_d (0 + 1))), _)], [(kScene, ad_d, _)], kn_pool kState 20 ad_pp _, kn_pool kState 20 ad_qq _])) _ _ := I.perm (kn_segA (segs := [[(kScene, (kn_up ad_c 0 (ad_d (0 + 1))), _)], [(kState, ad_s, _)], [(kScene, ad_d, _)], [(kState, ad_z, _)], kn_pool kState 20 ad_pp _, kn_pool kState 20 ad_qq _]) (sC := [[(kState, ad_s, _)], [(kState, ad_z, _)]]) (sR := [[(kScene, (kn_up ad_c 0 (ad_d (0 + 1))), _)], [(kScene, ad_d, _)], kn_pool kState 20 ad_pp _, kn_pool kState 20 ad_qq _]) [1, 3, 0, 2, 4, 5] rfl rfl)
  refine kw_callv (wc := [(kState, ad_s, _), (kState, ad_z, _)]) (wr := (List.flatten [[(kScene, (kn_up ad_c 0 (ad_d (0 + 1))), _)], [(kScene, ad_d, _)], kn_pool kState 20 ad_pp _, kn_pool kState 20 ad_qq _])) I hA (kn_pl1 _ _) (kn_pl2 _ _) (kn_pl1_ok _ _) (kn_pl2_ok _ _) (kn_pl2_nd _ _) (kn_pl_dis _ _) (kn_runV (As := [.ref (ad_z 0)]) S0 hK hZ hA I ((ctX6_copy h).met _) (kn_cwV 1 hts q3_170 q3_171 q3_172 q1_8 q3_173 rfl rfl (by decide +kernel) ⟨(Nat.le_of_ble_eq_true rfl), (Nat.le_of_ble_eq_true rfl)⟩) (kn_pl1 _ _) (kn_pl1_ok _ _) (kn_pl1_nd _ _) 0 rfl rfl rfl rfl hl.1 rfl (Nat.le_of_ble_eq_true rfl) (kn_dec tX5_copy 16 rfl) ⟨(Nat.le_of_ble_eq_true rfl), (Nat.le_of_ble_eq_true rfl)⟩) (fun u6 H locs h I => ?_)
  have I : kn_I D tc (kn_A _ s.heap.size) s.heap (List.flatten [[(kScene, (kn_up ad_c 0 (ad_d (0 + 1))), _)], [(kState, ad_s, _)], [(kScene, ad_d, _)], [(kState, ad_z, _)], kn_pool kState 20 ad_pp _, kn_pool kState 20 ad_qq _]) _ _ := I.perm (kn_segB (sC := [[(kScene, (kn_up ad_c 0 (ad_d (0 + 1))), _)], [(kScene, ad_d, _)], kn_pool kState 20 ad_pp _, kn_pool kState 20 ad_qq _]) (sR := [[(kState, ad_s, _)], [(kState, ad_z, _)]]) (segs := [[(kScene, (kn_up ad_c 0 (ad_d (0 + 1))), _)], [(kState, ad_s, _)], [(kScene, ad_d, _)], [(kState, ad_z, _)], kn_pool kState 20 ad_pp _, kn_pool kState 20 ad_qq _]) [0, 4, 1, 5, 2, 3] rfl rfl)
  refine lv_iconst (v := (0)) hx hb (kn_dec tX5_copy 17 rfl) (by decide) ?_
  refine lv_istore_n (lv' := [(2, .int _), (0, .ref (ad_c 0)), (1, .ref (ad_d 0))]) hx hb (kn_dec tX5_copy 18 rfl) rfl hl (by decide) rfl (fun ls hl => ?_)
  obtain ⟨n7, h⟩ := h
  exact wX5_copy_L37 X ((kn_up_n (by decide)).trans e_c_3) e_d_3 (fun i hi => (congrFun (kn_up_qq (by decide)) i).trans (p_c_4 i hi)) p_d_4 n7 _ _ _ _ _ _ _  I (lv_sub hl [1, 2, 0] rfl) h

/-! X8_append -/
abbrev rmX8_append : Room := { frames := 0, cells := 0, slots := 0, locals := 0 }
def PX8_append_L3   (post : OV → Prop) : Nat → Int32 → Int32 → OV → Prop
  | 0, _, _, _ => False
  | n + 1, y1, y2, v_t => ((y2 < ((0 : Int32)) → post v_t) ∧ (¬ y2 < ((0 : Int32)) → ((((400 : Int32)) ≤ (v_t.1 1) → post v_t) ∧ (¬ ((400 : Int32)) ≤ (v_t.1 1) → (∀ x3 : Int32, x3 = (((y1.toUInt32 >>> (y2.toUInt32 &&& Int32.toUInt32 31)).toInt32) &&& ((255 : Int32))) → (vp_in (v_t.1 1) 400 ∧ (∀ v_t5 : OV, v_t5 = sa v_t 0 (upd (v_t.2.1 0) (v_t.1 1).toNatClampNeg x3) → (∀ x6 : Int32, x6 = ((v_t5.1 1) + ((1 : Int32))) → (∀ v_t7 : OV, v_t7 = si v_t5 1 x6 → (∀ x8 : Int32, x8 = y2 + (-8 : Int32) → PX8_append_L3 post n y1 x8 v_t7))))))))))
set_option maxRecDepth 100000 in
set_option maxHeartbeats 1000000 in
theorem wX8_append_L3   {post : OV → Prop} {ad_t : Nat → Nat} (X : kn_X p s m args meth c cX8_append 3 none RX8 kn_all D tc Z (kn_A w0 s.heap.size))    : ∀ n : Nat, ∀ (H : Heap) (locs : List Loc) (ls : Array Slot) (y1 : Int32) (y2 : Int32) (v_t : OV), kn_I D tc (kn_A w0 s.heap.size) s.heap [(kTin, ad_t, v_t)] H locs → lv_has ls 3 [(0, .ref (ad_t 0)), (1, .int y1), (2, .int y2)] → PX8_append_L3 post n y1 y2 v_t → W p l e rmX8_append s m args below meth c H locs 0 0 (kn_Qv D tc w0 (fun (u : OV) => [(kTin, ad_t, u)]) (fun (u : OV) => post u) below args s 0 0) (F0 m 3 ls []) := by
  obtain ⟨S0, hr, hlocks, hK, hZ, hA⟩ := id X
  obtain ⟨hx, hb, hml, hown, hts⟩ := id S0
  intro n
  induction n with
  | zero =>
    intro H locs ls y1 y2 v_t I hl h
    unfold PX8_append_L3 at h
    exact h.elim
  | succ n ih =>
    intro H locs ls y1 y2 v_t I hl h
    unfold PX8_append_L3 at h
    refine lv_iload_n hx hb (kn_dec tX8_append 2 rfl) rfl (lv_at hl 2 rfl) ?_
    refine lv_if_lt (tgt := 49) hx hb (kn_dec tX8_append 3 rfl) (by decide) (fun c1 => ?_) (fun c1 => ?_)
    · have h := h.1 c1
      exact kw_vret hx hb hr hlocks I _ rfl h (kn_dec tX8_append 26 rfl)
    · have h := h.2 c1
      refine lv_aload_n hx hb (kn_dec tX8_append 4 rfl) rfl (lv_at hl 0 rfl) ?_
      refine kw_geti hx hb hts inX8 hown hK I 0 rfl rfl 1 (by decide) rfl (hts _ q2_100) (kn_dec tX8_append 5 rfl) ?_
      refine lv_sipush (v := (400)) hx hb (kn_dec tX8_append 6 rfl) (by decide) ?_
      refine lv_icmp_ge (tgt := 49) hx hb (kn_dec tX8_append 7 rfl) (by decide) (fun c2 => ?_) (fun c2 => ?_)
      · have h := h.1 c2
        exact kw_vret hx hb hr hlocks I _ rfl h (kn_dec tX8_append 26 rfl)
      · have h := h.2 c2
        refine lv_aload_n hx hb (kn_dec tX8_append 8 rfl) rfl (lv_at hl 0 rfl) ?_
        refine kw_getl hx hb hts inX8 hown hK I 0 rfl rfl 0 (by decide) rfl (hts _ q2_99) (kn_dec tX8_append 9 rfl) rfl ?_
        refine lv_aload_n hx hb (kn_dec tX8_append 10 rfl) rfl (lv_at hl 0 rfl) ?_
        refine kw_geti hx hb hts inX8 hown hK I 0 rfl rfl 1 (by decide) rfl (hts _ q2_100) (kn_dec tX8_append 11 rfl) ?_
        refine lv_iload_n hx hb (kn_dec tX8_append 12 rfl) rfl (lv_at hl 1 rfl) ?_
        refine lv_iload_n hx hb (kn_dec tX8_append 13 rfl) rfl (lv_at hl 2 rfl) ?_
        refine lv_iushr hx hb (kn_dec tX8_append 14 rfl) rfl ?_
        refine lv_sipush (v := (255)) hx hb (kn_dec tX8_append 15 rfl) (by decide) ?_
        refine lv_iand hx hb (kn_dec tX8_append 16 rfl) ?_
        refine lv_topi (fun x3 ex3 => ?_)
        have h := h x3 ex3
        obtain ⟨hs4, h⟩ := h
        refine kw_iast hx hb hK I 0 rfl 0 400 (List.mem_of_getElem? (i := 0) rfl) ukTin_0 hs4 (kn_dec tX8_append 17 rfl) (fun v_t5 ev_t5 H locs I => ?_)
        have h := h v_t5 ev_t5
        have I : kn_I D tc (kn_A w0 s.heap.size) s.heap [(kTin, ad_t, _)] _ _ := I
        refine lv_aload_n hx hb (kn_dec tX8_append 18 rfl) rfl (lv_at hl 0 rfl) ?_
        refine lv_dup hx hb (kn_dec tX8_append 19 rfl) rfl ?_
        refine kw_geti hx hb hts inX8 hown hK I 0 rfl rfl 1 (by decide) rfl (hts _ q2_100) (kn_dec tX8_append 20 rfl) ?_
        refine lv_iconst (v := (1)) hx hb (kn_dec tX8_append 21 rfl) (by decide) ?_
        refine lv_iadd hx hb (kn_dec tX8_append 22 rfl) ?_
        refine lv_topi (fun x6 ex6 => ?_)
        have h := h x6 ex6
        refine kw_puti hx hb hts inX8 tyX8 tyX8_ok nmX8 hown hK I 0 rfl rfl 1 (by decide) rfl (hts _ q2_100) rfl rfl rfl (kn_dec tX8_append 23 rfl) (fun v_t7 ev_t7 H locs I => ?_)
        have h := h v_t7 ev_t7
        have I : kn_I D tc (kn_A w0 s.heap.size) s.heap [(kTin, ad_t, _)] _ _ := I
        refine kw_iinc (lvf := fun y => [(2, .int y), (0, .ref (ad_t 0)), (1, .int _)]) (nv := (-8)) hx hb (kn_dec tX8_append 24 rfl) hl (k := 2) rfl (by decide) (by decide) (fun _ => rfl) (fun x8 ex8 ls hl => ?_)
        have h := h x8 ex8
        refine lv_goto (tgt := 3) hx hb (kn_dec tX8_append 25 rfl) (by decide) ?_
        exact ih _ _ _ _ _ _  I (lv_sub hl [1, 2, 0] rfl) h
def PX8_append  (v_t : OV) (a1 : Int32) (post : OV → Prop) : Prop := (∃ n1 : Nat, PX8_append_L3 post n1 a1 ((24 : Int32)) v_t)
set_option maxRecDepth 100000 in
set_option maxHeartbeats 1000000 in
theorem ctX8_append {l : Launch} {D : va_G} {tc : Nat → ClassId} {Z : (Nat → Nat) × (Nat → Nat)}  {ad_t : Nat → Nat} {v_t : OV} {a1 : Int32}    {post : OV → Prop} (h : PX8_append  v_t a1 post) : CTv l D tc Z yX8_append (Cond.code yX8_append cX8_append 3 none :: kn_all) rmX8_append 0 0 [.ref (ad_t 0), .int a1] [(kTin, ad_t, v_t)] (fun (u : OV) => [(kTin, ad_t, u)]) (fun (u : OV) => post u) := by
  refine kn_ofv (cc := cX8_append) (nL := 3) (ret := none) (lv := [(0, .ref (ad_t 0)), (1, .int a1)]) (by decide) (Nat.le_of_ble_eq_true rfl) rfl (fun p e s m below meth c ls X I hl _ => ?_)
  obtain ⟨S0, hr, hlocks, hK, hZ, hA⟩ := id X
  obtain ⟨hx, hb, hml, hown, hts⟩ := id S0
  unfold PX8_append at h
  refine lv_bipush (v := (24)) hx hb (kn_dec tX8_append 0 rfl) (by decide) ?_
  refine lv_istore_n (lv' := [(2, .int _), (0, .ref (ad_t 0)), (1, .int _)]) hx hb (kn_dec tX8_append 1 rfl) rfl hl (by decide) rfl (fun ls hl => ?_)
  obtain ⟨n1, h⟩ := h
  exact wX8_append_L3 X n1 _ _ _ _ _ _  I (lv_sub hl [1, 2, 0] rfl) h

/-! X8_feed -/
abbrev rmX8_feed : Room := { frames := 1, cells := 0, slots := 0, locals := 22 }
def PX8_feed  (v_t : OV) (a1 : Int32) (a2 : Int32) (a3 : Int32) (a4 : Int32) (a5 : Int32) (post : Int32 → OV → Prop) : Prop := (((v_t.1 1) ≤ ((380 : Int32)) → (PX8_append v_t a1 (fun v_t2 => (PX8_append v_t2 a2 (fun v_t4 => (PX8_append v_t4 a3 (fun v_t6 => (PX8_append v_t6 a4 (fun v_t8 => (PX8_append v_t8 a5 (fun v_t10 => post (v_t10.1 1) v_t10))))))))))) ∧ (¬ (v_t.1 1) ≤ ((380 : Int32)) → post ((-1 : Int32)) v_t))
set_option maxRecDepth 100000 in
set_option maxHeartbeats 1000000 in
theorem ctX8_feed {l : Launch} {D : va_G} {tc : Nat → ClassId} {Z : (Nat → Nat) × (Nat → Nat)}  {ad_t : Nat → Nat} {v_t : OV} {a1 : Int32} {a2 : Int32} {a3 : Int32} {a4 : Int32} {a5 : Int32}    {post : Int32 → OV → Prop} (h : PX8_feed  v_t a1 a2 a3 a4 a5 post) : CTi l D tc Z yX8_feed (Cond.code yX8_feed cX8_feed 6 (some .int) :: kn_all) rmX8_feed 0 0 [.ref (ad_t 0), .int a1, .int a2, .int a3, .int a4, .int a5] [(kTin, ad_t, v_t)] (fun (u : OV) => [(kTin, ad_t, u)]) (fun (r : Int32) (u : OV) => post r u) := by
  refine kn_ofi (cc := cX8_feed) (nL := 6) (ret := (some .int)) (lv := [(0, .ref (ad_t 0)), (1, .int a1), (2, .int a2), (3, .int a3), (4, .int a4), (5, .int a5)]) (by decide) (Nat.le_of_ble_eq_true rfl) rfl (fun p e s m below meth c ls X I hl _ => ?_)
  obtain ⟨S0, hr, hlocks, hK, hZ, hA⟩ := id X
  obtain ⟨hx, hb, hml, hown, hts⟩ := id S0
  unfold PX8_feed at h
  refine lv_aload_n hx hb (kn_dec tX8_feed 0 rfl) rfl (lv_at hl 0 rfl) ?_
  refine kw_geti hx hb hts inX8 hown hK I 0 rfl rfl 1 (by decide) rfl (hts _ q2_100) (kn_dec tX8_feed 1 rfl) ?_
  refine lv_sipush (v := (380)) hx hb (kn_dec tX8_feed 2 rfl) (by decide) ?_
  refine lv_icmp_le (tgt := 12) hx hb (kn_dec tX8_feed 3 rfl) (by decide) (fun c1 => ?_) (fun c1 => ?_)
  · have h := h.1 c1
    refine lv_aload_n hx hb (kn_dec tX8_feed 6 rfl) rfl (lv_at hl 0 rfl) ?_
    refine lv_iload_n hx hb (kn_dec tX8_feed 7 rfl) rfl (lv_at hl 1 rfl) ?_
    refine kw_callv (wc := [(kTin, ad_t, _)]) (wr := []) I hA [0] [] rfl rfl (by decide) (by decide) (kn_runV (As := [.int _]) S0 hK hZ hA I ((ctX8_append h).met _) (kn_cwV 1 hts q2_140 q2_142 q0_0 q1_1 q2_143 rfl rfl (by decide +kernel) ⟨(Nat.le_of_ble_eq_true rfl), (Nat.le_of_ble_eq_true rfl)⟩) [0] rfl (by decide) 0 rfl rfl rfl rfl hl.1 rfl (Nat.le_of_ble_eq_true rfl) (kn_dec tX8_feed 8 rfl) ⟨(Nat.le_of_ble_eq_true rfl), (Nat.le_of_ble_eq_true rfl)⟩) (fun u3 H locs h I => ?_)
    have I : kn_I D tc (kn_A _ s.heap.size) s.heap [(kTin, ad_t, _)] _ _ := I
    refine lv_aload_n hx hb (kn_dec tX8_feed 9 rfl) rfl (lv_at hl 0 rfl) ?_
    refine lv_iload_n hx hb (kn_dec tX8_feed 10 rfl) rfl (lv_at hl 2 rfl) ?_
    refine kw_callv (wc := [(kTin, ad_t, _)]) (wr := []) I hA [0] [] rfl rfl (by decide) (by decide) (kn_runV (As := [.int _]) S0 hK hZ hA I ((ctX8_append h).met _) (kn_cwV 1 hts q2_140 q2_142 q0_0 q1_1 q2_143 rfl rfl (by decide +kernel) ⟨(Nat.le_of_ble_eq_true rfl), (Nat.le_of_ble_eq_true rfl)⟩) [0] rfl (by decide) 0 rfl rfl rfl rfl hl.1 rfl (Nat.le_of_ble_eq_true rfl) (kn_dec tX8_feed 11 rfl) ⟨(Nat.le_of_ble_eq_true rfl), (Nat.le_of_ble_eq_true rfl)⟩) (fun u5 H locs h I => ?_)
    have I : kn_I D tc (kn_A _ s.heap.size) s.heap [(kTin, ad_t, _)] _ _ := I
    refine lv_aload_n hx hb (kn_dec tX8_feed 12 rfl) rfl (lv_at hl 0 rfl) ?_
    refine lv_iload_n hx hb (kn_dec tX8_feed 13 rfl) rfl (lv_at hl 3 rfl) ?_
    refine kw_callv (wc := [(kTin, ad_t, _)]) (wr := []) I hA [0] [] rfl rfl (by decide) (by decide) (kn_runV (As := [.int _]) S0 hK hZ hA I ((ctX8_append h).met _) (kn_cwV 1 hts q2_140 q2_142 q0_0 q1_1 q2_143 rfl rfl (by decide +kernel) ⟨(Nat.le_of_ble_eq_true rfl), (Nat.le_of_ble_eq_true rfl)⟩) [0] rfl (by decide) 0 rfl rfl rfl rfl hl.1 rfl (Nat.le_of_ble_eq_true rfl) (kn_dec tX8_feed 14 rfl) ⟨(Nat.le_of_ble_eq_true rfl), (Nat.le_of_ble_eq_true rfl)⟩) (fun u7 H locs h I => ?_)
    have I : kn_I D tc (kn_A _ s.heap.size) s.heap [(kTin, ad_t, _)] _ _ := I
    refine lv_aload_n hx hb (kn_dec tX8_feed 15 rfl) rfl (lv_at hl 0 rfl) ?_
    refine lv_iload hx hb (kn_dec tX8_feed 16 rfl) (lv_at hl 4 rfl) ?_
    refine kw_callv (wc := [(kTin, ad_t, _)]) (wr := []) I hA [0] [] rfl rfl (by decide) (by decide) (kn_runV (As := [.int _]) S0 hK hZ hA I ((ctX8_append h).met _) (kn_cwV 1 hts q2_140 q2_142 q0_0 q1_1 q2_143 rfl rfl (by decide +kernel) ⟨(Nat.le_of_ble_eq_true rfl), (Nat.le_of_ble_eq_true rfl)⟩) [0] rfl (by decide) 0 rfl rfl rfl rfl hl.1 rfl (Nat.le_of_ble_eq_true rfl) (kn_dec tX8_feed 17 rfl) ⟨(Nat.le_of_ble_eq_true rfl), (Nat.le_of_ble_eq_true rfl)⟩) (fun u9 H locs h I => ?_)
    have I : kn_I D tc (kn_A _ s.heap.size) s.heap [(kTin, ad_t, _)] _ _ := I
    refine lv_aload_n hx hb (kn_dec tX8_feed 18 rfl) rfl (lv_at hl 0 rfl) ?_
    refine lv_iload hx hb (kn_dec tX8_feed 19 rfl) (lv_at hl 5 rfl) ?_
    refine kw_callv (wc := [(kTin, ad_t, _)]) (wr := []) I hA [0] [] rfl rfl (by decide) (by decide) (kn_runV (As := [.int _]) S0 hK hZ hA I ((ctX8_append h).met _) (kn_cwV 1 hts q2_140 q2_142 q0_0 q1_1 q2_143 rfl rfl (by decide +kernel) ⟨(Nat.le_of_ble_eq_true rfl), (Nat.le_of_ble_eq_true rfl)⟩) [0] rfl (by decide) 0 rfl rfl rfl rfl hl.1 rfl (Nat.le_of_ble_eq_true rfl) (kn_dec tX8_feed 20 rfl) ⟨(Nat.le_of_ble_eq_true rfl), (Nat.le_of_ble_eq_true rfl)⟩) (fun u11 H locs h I => ?_)
    have I : kn_I D tc (kn_A _ s.heap.size) s.heap [(kTin, ad_t, _)] _ _ := I
    refine lv_aload_n hx hb (kn_dec tX8_feed 21 rfl) rfl (lv_at hl 0 rfl) ?_
    refine kw_geti hx hb hts inX8 hown hK I 0 rfl rfl 1 (by decide) rfl (hts _ q2_100) (kn_dec tX8_feed 22 rfl) ?_
    exact kw_iret hx hb hr hlocks I _ rfl h (kn_dec tX8_feed 23 rfl)
  · have h := h.2 c1
    refine lv_iconst (v := (-1)) hx hb (kn_dec tX8_feed 4 rfl) (by decide) ?_
    exact kw_iret hx hb hr hlocks I _ rfl h (kn_dec tX8_feed 5 rfl)

/-! X8_end -/
abbrev rmX8_end : Room := { frames := 0, cells := 0, slots := 0, locals := 0 }
def PX8_end  (v_t : OV) (a1 : Int32) (post : Int32 → OV → Prop) : Prop := ((a1 < ((0 : Int32)) → post ((-1 : Int32)) v_t) ∧ (¬ a1 < ((0 : Int32)) → ((a1 ≤ (v_t.1 1) → (∀ v_t3 : OV, v_t3 = si v_t 1 a1 → post a1 v_t3)) ∧ (¬ a1 ≤ (v_t.1 1) → post ((-1 : Int32)) v_t))))
set_option maxRecDepth 100000 in
set_option maxHeartbeats 1000000 in
theorem ctX8_end {l : Launch} {D : va_G} {tc : Nat → ClassId} {Z : (Nat → Nat) × (Nat → Nat)}  {ad_t : Nat → Nat} {v_t : OV} {a1 : Int32}    {post : Int32 → OV → Prop} (h : PX8_end  v_t a1 post) : CTi l D tc Z yX8_end (Cond.code yX8_end cX8_end 2 (some .int) :: kn_all) rmX8_end 0 0 [.ref (ad_t 0), .int a1] [(kTin, ad_t, v_t)] (fun (u : OV) => [(kTin, ad_t, u)]) (fun (r : Int32) (u : OV) => post r u) := by
  refine kn_ofi (cc := cX8_end) (nL := 2) (ret := (some .int)) (lv := [(0, .ref (ad_t 0)), (1, .int a1)]) (by decide) (Nat.le_of_ble_eq_true rfl) rfl (fun p e s m below meth c ls X I hl _ => ?_)
  obtain ⟨S0, hr, hlocks, hK, hZ, hA⟩ := id X
  obtain ⟨hx, hb, hml, hown, hts⟩ := id S0
  unfold PX8_end at h
  refine lv_iload_n hx hb (kn_dec tX8_end 0 rfl) rfl (lv_at hl 1 rfl) ?_
  refine lv_if_lt (tgt := 12) hx hb (kn_dec tX8_end 1 rfl) (by decide) (fun c1 => ?_) (fun c1 => ?_)
  · have h := h.1 c1
    refine lv_iconst (v := (-1)) hx hb (kn_dec tX8_end 6 rfl) (by decide) ?_
    exact kw_iret hx hb hr hlocks I _ rfl h (kn_dec tX8_end 7 rfl)
  · have h := h.2 c1
    refine lv_iload_n hx hb (kn_dec tX8_end 2 rfl) rfl (lv_at hl 1 rfl) ?_
    refine lv_aload_n hx hb (kn_dec tX8_end 3 rfl) rfl (lv_at hl 0 rfl) ?_
    refine kw_geti hx hb hts inX8 hown hK I 0 rfl rfl 1 (by decide) rfl (hts _ q2_100) (kn_dec tX8_end 4 rfl) ?_
    refine lv_icmp_le (tgt := 14) hx hb (kn_dec tX8_end 5 rfl) (by decide) (fun c2 => ?_) (fun c2 => ?_)
    · have h := h.1 c2
      refine lv_aload_n hx hb (kn_dec tX8_end 8 rfl) rfl (lv_at hl 0 rfl) ?_
      refine lv_iload_n hx hb (kn_dec tX8_end 9 rfl) rfl (lv_at hl 1 rfl) ?_
      refine kw_puti hx hb hts inX8 tyX8 tyX8_ok nmX8 hown hK I 0 rfl rfl 1 (by decide) rfl (hts _ q2_100) rfl rfl rfl (kn_dec tX8_end 10 rfl) (fun v_t3 ev_t3 H locs I => ?_)
      have h := h v_t3 ev_t3
      have I : kn_I D tc (kn_A _ s.heap.size) s.heap [(kTin, ad_t, _)] _ _ := I
      refine lv_iload_n hx hb (kn_dec tX8_end 11 rfl) rfl (lv_at hl 1 rfl) ?_
      exact kw_iret hx hb hr hlocks I _ rfl h (kn_dec tX8_end 12 rfl)
    · have h := h.2 c2
      refine lv_iconst (v := (-1)) hx hb (kn_dec tX8_end 6 rfl) (by decide) ?_
      exact kw_iret hx hb hr hlocks I _ rfl h (kn_dec tX8_end 7 rfl)

/-! X8_force -/
abbrev rmX8_force : Room := { frames := 0, cells := 0, slots := 0, locals := 0 }
def PX8_force  (v_t : OV) (v_c : OV) (a1 : Int32) (post : Int32 → OV → Prop) : Prop := ((a1 < ((-1 : Int32)) → post ((-2 : Int32)) v_c) ∧ (¬ a1 < ((-1 : Int32)) → ((a1 < (v_t.1 5) → (∀ x3 : Int32, x3 = (v_c.1 1) → (∀ v_c4 : OV, v_c4 = si v_c 1 a1 → post x3 v_c4))) ∧ (¬ a1 < (v_t.1 5) → post ((-2 : Int32)) v_c))))
set_option maxRecDepth 100000 in
set_option maxHeartbeats 1000000 in
theorem ctX8_force {l : Launch} {D : va_G} {tc : Nat → ClassId} {Z : (Nat → Nat) × (Nat → Nat)}  {ad_t : Nat → Nat} {ad_c : Nat → Nat} {v_t : OV} {v_c : OV} {a1 : Int32} (e_t_6 : ad_t (6 + 1) = ad_c 0)   {post : Int32 → OV → Prop} (h : PX8_force  v_t v_c a1 post) : CTi l D tc Z yX8_force (Cond.code yX8_force cX8_force 3 (some .int) :: kn_all) rmX8_force 0 0 [.ref (ad_t 0), .int a1] [(kTin, ad_t, v_t), (kScene, ad_c, v_c)] (fun (u : OV) => [(kTin, ad_t, v_t), (kScene, ad_c, u)]) (fun (r : Int32) (u : OV) => post r u) := by
  refine kn_ofi (cc := cX8_force) (nL := 3) (ret := (some .int)) (lv := [(0, .ref (ad_t 0)), (1, .int a1)]) (by decide) (Nat.le_of_ble_eq_true rfl) rfl (fun p e s m below meth c ls X I hl _ => ?_)
  obtain ⟨S0, hr, hlocks, hK, hZ, hA⟩ := id X
  obtain ⟨hx, hb, hml, hown, hts⟩ := id S0
  unfold PX8_force at h
  refine lv_iload_n hx hb (kn_dec tX8_force 0 rfl) rfl (lv_at hl 1 rfl) ?_
  refine lv_iconst (v := (-1)) hx hb (kn_dec tX8_force 1 rfl) (by decide) ?_
  refine lv_icmp_lt (tgt := 13) hx hb (kn_dec tX8_force 2 rfl) (by decide) (fun c1 => ?_) (fun c1 => ?_)
  · have h := h.1 c1
    refine lv_bipush (v := (-2)) hx hb (kn_dec tX8_force 7 rfl) (by decide) ?_
    exact kw_iret hx hb hr hlocks I _ rfl h (kn_dec tX8_force 8 rfl)
  · have h := h.2 c1
    refine lv_iload_n hx hb (kn_dec tX8_force 3 rfl) rfl (lv_at hl 1 rfl) ?_
    refine lv_aload_n hx hb (kn_dec tX8_force 4 rfl) rfl (lv_at hl 0 rfl) ?_
    refine kw_geti hx hb hts inX8 hown hK I 0 rfl rfl 5 (by decide) rfl (hts _ q2_104) (kn_dec tX8_force 5 rfl) ?_
    refine lv_icmp_lt (tgt := 16) hx hb (kn_dec tX8_force 6 rfl) (by decide) (fun c2 => ?_) (fun c2 => ?_)
    · have h := h.1 c2
      refine lv_aload_n hx hb (kn_dec tX8_force 9 rfl) rfl (lv_at hl 0 rfl) ?_
      refine kw_getl hx hb hts inX8 hown hK I 0 rfl rfl 6 (by decide) rfl (hts _ q2_105) (kn_dec tX8_force 10 rfl) e_t_6 ?_
      refine kw_geti hx hb hts inX5 hown hK I 1 rfl rfl 1 (by decide) rfl (hts _ q2_30) (kn_dec tX8_force 11 rfl) ?_
      refine lv_topi (fun x3 ex3 => ?_)
      have h := h x3 ex3
      refine lv_istore_n (lv' := [(2, .int _), (0, .ref (ad_t 0)), (1, .int _)]) hx hb (kn_dec tX8_force 12 rfl) rfl hl (by decide) rfl (fun ls hl => ?_)
      refine lv_aload_n hx hb (kn_dec tX8_force 13 rfl) rfl (lv_at hl 1 rfl) ?_
      refine kw_getl hx hb hts inX8 hown hK I 0 rfl rfl 6 (by decide) rfl (hts _ q2_105) (kn_dec tX8_force 14 rfl) e_t_6 ?_
      refine lv_iload_n hx hb (kn_dec tX8_force 15 rfl) rfl (lv_at hl 2 rfl) ?_
      refine kw_puti hx hb hts inX5 tyX5 tyX5_ok nmX5 hown hK I 1 rfl rfl 1 (by decide) rfl (hts _ q2_30) rfl rfl rfl (kn_dec tX8_force 16 rfl) (fun v_c4 ev_c4 H locs I => ?_)
      have h := h v_c4 ev_c4
      have I : kn_I D tc (kn_A _ s.heap.size) s.heap [(kTin, ad_t, _), (kScene, ad_c, _)] _ _ := I
      refine lv_iload_n hx hb (kn_dec tX8_force 17 rfl) rfl (lv_at hl 0 rfl) ?_
      exact kw_iret hx hb hr hlocks I _ rfl h (kn_dec tX8_force 18 rfl)
    · have h := h.2 c2
      refine lv_bipush (v := (-2)) hx hb (kn_dec tX8_force 7 rfl) (by decide) ?_
      exact kw_iret hx hb hr hlocks I _ rfl h (kn_dec tX8_force 8 rfl)

/-! X8_isPart -/
abbrev rmX8_isPart : Room := { frames := 0, cells := 0, slots := 0, locals := 0 }
def PX8_isPart  (a0 : Int32) (post : Int32 → Prop) : Prop := ((a0 = ((0 : Int32)) → post ((1 : Int32))) ∧ (¬ a0 = ((0 : Int32)) → ((¬ a0 = ((1 : Int32)) → post ((0 : Int32))) ∧ (a0 = ((1 : Int32)) → post ((1 : Int32))))))
set_option maxRecDepth 100000 in
set_option maxHeartbeats 1000000 in
theorem ctX8_isPart {l : Launch} {D : va_G} {tc : Nat → ClassId} {Z : (Nat → Nat) × (Nat → Nat)}   {a0 : Int32}    {post : Int32 → Prop} (h : PX8_isPart  a0 post) : CTi l D tc Z yX8_isPart (Cond.code yX8_isPart cX8_isPart 1 (some .boolean) :: kn_all) rmX8_isPart 0 0 [.int a0] [] (fun (u : Unit) => []) (fun (r : Int32) (u : Unit) => (r = 0 ∨ r = 1) ∧ post r) := by
  refine kn_ofi (cc := cX8_isPart) (nL := 1) (ret := (some .boolean)) (lv := [(0, .int a0)]) (by decide) (Nat.le_of_ble_eq_true rfl) rfl (fun p e s m below meth c ls X I hl _ => ?_)
  obtain ⟨S0, hr, hlocks, hK, hZ, hA⟩ := id X
  obtain ⟨hx, hb, hml, hown, hts⟩ := id S0
  unfold PX8_isPart at h
  refine lv_iload_n hx hb (kn_dec tX8_isPart 0 rfl) rfl (lv_at hl 0 rfl) ?_
  refine lv_if_eq (tgt := 9) hx hb (kn_dec tX8_isPart 1 rfl) (by decide) (fun c1 => ?_) (fun c1 => ?_)
  · have h := h.1 c1
    refine lv_iconst (v := (1)) hx hb (kn_dec tX8_isPart 5 rfl) (by decide) ?_
    refine lv_goto (tgt := 14) hx hb (kn_dec tX8_isPart 6 rfl) (by decide) ?_
    exact kw_zret hx hb hr (kn_nz (Or.inr rfl)) hlocks I () rfl ⟨(Or.inr rfl), h⟩ (kn_dec tX8_isPart 8 rfl)
  · have h := h.2 c1
    refine lv_iload_n hx hb (kn_dec tX8_isPart 2 rfl) rfl (lv_at hl 0 rfl) ?_
    refine lv_iconst (v := (1)) hx hb (kn_dec tX8_isPart 3 rfl) (by decide) ?_
    refine lv_icmp_ne (tgt := 13) hx hb (kn_dec tX8_isPart 4 rfl) (by decide) (fun c2 => ?_) (fun c2 => ?_)
    · have h := h.1 c2
      refine lv_iconst (v := (0)) hx hb (kn_dec tX8_isPart 7 rfl) (by decide) ?_
      exact kw_zret hx hb hr (kn_nz (Or.inl rfl)) hlocks I () rfl ⟨(Or.inl rfl), h⟩ (kn_dec tX8_isPart 8 rfl)
    · have h := h.2 c2
      refine lv_iconst (v := (1)) hx hb (kn_dec tX8_isPart 5 rfl) (by decide) ?_
      refine lv_goto (tgt := 14) hx hb (kn_dec tX8_isPart 6 rfl) (by decide) ?_
      exact kw_zret hx hb hr (kn_nz (Or.inr rfl)) hlocks I () rfl ⟨(Or.inr rfl), h⟩ (kn_dec tX8_isPart 8 rfl)

/-! X8_bit -/
abbrev rmX8_bit : Room := { frames := 0, cells := 0, slots := 0, locals := 0 }
def PX8_bit  (a0 : Int32) (post : Int32 → Prop) : Prop := ((a0 < ((0 : Int32)) → post ((0 : Int32))) ∧ (¬ a0 < ((0 : Int32)) → ((((30 : Int32)) ≤ a0 → post ((0 : Int32))) ∧ (¬ ((30 : Int32)) ≤ a0 → post (((1 : Int32)) <<< (a0 &&& 31))))))
set_option maxRecDepth 100000 in
set_option maxHeartbeats 1000000 in
theorem ctX8_bit {l : Launch} {D : va_G} {tc : Nat → ClassId} {Z : (Nat → Nat) × (Nat → Nat)}   {a0 : Int32}    {post : Int32 → Prop} (h : PX8_bit  a0 post) : CTi l D tc Z yX8_bit (Cond.code yX8_bit cX8_bit 1 (some .int) :: kn_all) rmX8_bit 0 0 [.int a0] [] (fun (u : Unit) => []) (fun (r : Int32) (u : Unit) => post r) := by
  refine kn_ofi (cc := cX8_bit) (nL := 1) (ret := (some .int)) (lv := [(0, .int a0)]) (by decide) (Nat.le_of_ble_eq_true rfl) rfl (fun p e s m below meth c ls X I hl _ => ?_)
  obtain ⟨S0, hr, hlocks, hK, hZ, hA⟩ := id X
  obtain ⟨hx, hb, hml, hown, hts⟩ := id S0
  unfold PX8_bit at h
  refine lv_iload_n hx hb (kn_dec tX8_bit 0 rfl) rfl (lv_at hl 0 rfl) ?_
  refine lv_if_lt (tgt := 16) hx hb (kn_dec tX8_bit 1 rfl) (by decide) (fun c1 => ?_) (fun c1 => ?_)
  · have h := h.1 c1
    refine lv_iconst (v := (0)) hx hb (kn_dec tX8_bit 9 rfl) (by decide) ?_
    exact kw_iret hx hb hr hlocks I () rfl h (kn_dec tX8_bit 10 rfl)
  · have h := h.2 c1
    refine lv_iload_n hx hb (kn_dec tX8_bit 2 rfl) rfl (lv_at hl 0 rfl) ?_
    refine lv_bipush (v := (30)) hx hb (kn_dec tX8_bit 3 rfl) (by decide) ?_
    refine lv_icmp_ge (tgt := 16) hx hb (kn_dec tX8_bit 4 rfl) (by decide) (fun c2 => ?_) (fun c2 => ?_)
    · have h := h.1 c2
      refine lv_iconst (v := (0)) hx hb (kn_dec tX8_bit 9 rfl) (by decide) ?_
      exact kw_iret hx hb hr hlocks I () rfl h (kn_dec tX8_bit 10 rfl)
    · have h := h.2 c2
      refine lv_iconst (v := (1)) hx hb (kn_dec tX8_bit 5 rfl) (by decide) ?_
      refine lv_iload_n hx hb (kn_dec tX8_bit 6 rfl) rfl (lv_at hl 0 rfl) ?_
      refine lv_ishl hx hb (kn_dec tX8_bit 7 rfl) ?_
      refine lv_goto (tgt := 17) hx hb (kn_dec tX8_bit 8 rfl) (by decide) ?_
      exact kw_iret hx hb hr hlocks I () rfl h (kn_dec tX8_bit 10 rfl)

/-! X8_drawnAfter -/
abbrev rmX8_drawnAfter : Room := { frames := 0, cells := 0, slots := 0, locals := 0 }
def PX8_drawnAfter  (a0 : Int32) (post : Int32 → Prop) : Prop := post ((((a0.toInt64 * ((1103515245 : Int64))) + ((12345 : Int64))) &&& ((2147483647 : Int64))).toInt32)
set_option maxRecDepth 100000 in
set_option maxHeartbeats 1000000 in
theorem ctX8_drawnAfter {l : Launch} {D : va_G} {tc : Nat → ClassId} {Z : (Nat → Nat) × (Nat → Nat)}   {a0 : Int32}    {post : Int32 → Prop} (h : PX8_drawnAfter  a0 post) : CTi l D tc Z yX8_drawnAfter (Cond.code yX8_drawnAfter cX8_drawnAfter 1 (some .int) :: kn_all) rmX8_drawnAfter 0 0 [.int a0] [] (fun (u : Unit) => []) (fun (r : Int32) (u : Unit) => post r) := by
  refine kn_ofi (cc := cX8_drawnAfter) (nL := 1) (ret := (some .int)) (lv := [(0, .int a0)]) (by decide) (Nat.le_of_ble_eq_true rfl) rfl (fun p e s m below meth c ls X I hl _ => ?_)
  obtain ⟨S0, hr, hlocks, hK, hZ, hA⟩ := id X
  obtain ⟨hx, hb, hml, hown, hts⟩ := id S0
  unfold PX8_drawnAfter at h
  refine lv_iload_n hx hb (kn_dec tX8_drawnAfter 0 rfl) rfl (lv_at hl 0 rfl) ?_
  refine lv_i2l hx hb (kn_dec tX8_drawnAfter 1 rfl) rfl ?_
  refine lv_ldc2 (v := (1103515245)) hx hb hown (hts _ q4_172) (kn_dec tX8_drawnAfter 2 rfl) ?_
  refine lv_lmul hx hb (kn_dec tX8_drawnAfter 3 rfl) ?_
  refine lv_ldc2 (v := (12345)) hx hb hown (hts _ q4_173) (kn_dec tX8_drawnAfter 4 rfl) ?_
  refine lv_ladd hx hb (kn_dec tX8_drawnAfter 5 rfl) ?_
  refine lv_ldc2 (v := (2147483647)) hx hb hown (hts _ q4_174) (kn_dec tX8_drawnAfter 6 rfl) ?_
  refine lv_land hx hb (kn_dec tX8_drawnAfter 7 rfl) ?_
  refine lv_l2i hx hb (kn_dec tX8_drawnAfter 8 rfl) rfl ?_
  exact kw_iret hx hb hr hlocks I () rfl h (kn_dec tX8_drawnAfter 9 rfl)

/-! X8_ofLowestTerms -/
abbrev rmX8_ofLowestTerms : Room := { frames := 0, cells := 0, slots := 0, locals := 0 }
def PX8_ofLowestTerms_b53   (post : Int32 → Prop) (y0 : Int32) (y1 : Int32) (y2 : Int32) (y3 : Int32) : Prop := ((((0 : Int32)) < y3 → ((¬ y2 = ((0 : Int32)) → (¬ y3 = 0 ∧ post (y1 / y3))) ∧ (y2 = ((0 : Int32)) → (¬ y3 = 0 ∧ post (y0 / y3))))) ∧ (¬ ((0 : Int32)) < y3 → post ((-1 : Int32))))
set_option maxRecDepth 100000 in
set_option maxHeartbeats 1000000 in
theorem wX8_ofLowestTerms_b53   {post : Int32 → Prop}  (X : kn_X p s m args meth c cX8_ofLowestTerms 7 (some .int) RX8 kn_all D tc Z (kn_A w0 s.heap.size))    : ∀ (H : Heap) (locs : List Loc) (ls : Array Slot) (y0 : Int32) (y1 : Int32) (y2 : Int32) (y3 : Int32), kn_I D tc (kn_A w0 s.heap.size) s.heap [] H locs → lv_has ls 7 [(0, .int y0), (1, .int y1), (2, .int y2), (3, .int y3)] → PX8_ofLowestTerms_b53 post y0 y1 y2 y3 → W p l e rmX8_ofLowestTerms s m args below meth c H locs 0 0 (kn_Qi D tc w0 (fun (u : Unit) => []) (fun (r : Int32) (u : Unit) => post r) below args s 0 0) (F0 m 53 ls []) := by
  obtain ⟨S0, hr, hlocks, hK, hZ, hA⟩ := id X
  obtain ⟨hx, hb, hml, hown, hts⟩ := id S0
  intro H locs ls y0 y1 y2 y3 I hl h
  unfold PX8_ofLowestTerms_b53 at h
  refine lv_iload_n hx hb (kn_dec tX8_ofLowestTerms 29 rfl) rfl (lv_at hl 3 rfl) ?_
  refine lv_if_gt (tgt := 59) hx hb (kn_dec tX8_ofLowestTerms 30 rfl) (by decide) (fun c1 => ?_) (fun c1 => ?_)
  · have h := h.1 c1
    refine lv_iload_n hx hb (kn_dec tX8_ofLowestTerms 33 rfl) rfl (lv_at hl 2 rfl) ?_
    refine lv_if_ne (tgt := 67) hx hb (kn_dec tX8_ofLowestTerms 34 rfl) (by decide) (fun c2 => ?_) (fun c2 => ?_)
    · have h := h.1 c2
      refine lv_iload_n hx hb (kn_dec tX8_ofLowestTerms 37 rfl) rfl (lv_at hl 1 rfl) ?_
      refine lv_iload_n hx hb (kn_dec tX8_ofLowestTerms 38 rfl) rfl (lv_at hl 3 rfl) ?_
      obtain ⟨hs3, h⟩ := h
      refine lv_idiv hx hb (kn_dec tX8_ofLowestTerms 39 rfl) hs3 ?_
      exact kw_iret hx hb hr hlocks I () rfl h (kn_dec tX8_ofLowestTerms 40 rfl)
    · have h := h.2 c2
      refine lv_iload_n hx hb (kn_dec tX8_ofLowestTerms 35 rfl) rfl (lv_at hl 0 rfl) ?_
      refine lv_goto (tgt := 68) hx hb (kn_dec tX8_ofLowestTerms 36 rfl) (by decide) ?_
      refine lv_iload_n hx hb (kn_dec tX8_ofLowestTerms 38 rfl) rfl (lv_at hl 3 rfl) ?_
      obtain ⟨hs4, h⟩ := h
      refine lv_idiv hx hb (kn_dec tX8_ofLowestTerms 39 rfl) hs4 ?_
      exact kw_iret hx hb hr hlocks I () rfl h (kn_dec tX8_ofLowestTerms 40 rfl)
  · have h := h.2 c1
    refine lv_iconst (v := (-1)) hx hb (kn_dec tX8_ofLowestTerms 31 rfl) (by decide) ?_
    exact kw_iret hx hb hr hlocks I () rfl h (kn_dec tX8_ofLowestTerms 32 rfl)
def PX8_ofLowestTerms_L22   (post : Int32 → Prop) : Nat → Int32 → Int32 → Int32 → Int32 → Int32 → Int32 → Prop
  | 0, _, _, _, _, _, _ => False
  | n + 1, y0, y1, y2, y3, y4, y5 => ((((100 : Int32)) ≤ y5 → PX8_ofLowestTerms_b53 post y0 y1 y2 y3) ∧ (¬ ((100 : Int32)) ≤ y5 → ((y4 ≤ ((0 : Int32)) → PX8_ofLowestTerms_b53 post y0 y1 y2 y3) ∧ (¬ y4 ≤ ((0 : Int32)) → (¬ y4 = 0 ∧ (∀ x4 : Int32, x4 = (y3 - y3 / y4 * y4) → (∀ x5 : Int32, x5 = y5 + (1 : Int32) → PX8_ofLowestTerms_L22 post n y0 y1 y2 y4 x4 x5)))))))
set_option maxRecDepth 100000 in
set_option maxHeartbeats 1000000 in
theorem wX8_ofLowestTerms_L22   {post : Int32 → Prop}  (X : kn_X p s m args meth c cX8_ofLowestTerms 7 (some .int) RX8 kn_all D tc Z (kn_A w0 s.heap.size))    : ∀ n : Nat, ∀ (H : Heap) (locs : List Loc) (ls : Array Slot) (y0 : Int32) (y1 : Int32) (y2 : Int32) (y3 : Int32) (y4 : Int32) (y5 : Int32), kn_I D tc (kn_A w0 s.heap.size) s.heap [] H locs → lv_has ls 7 [(0, .int y0), (1, .int y1), (2, .int y2), (3, .int y3), (4, .int y4), (5, .int y5)] → PX8_ofLowestTerms_L22 post n y0 y1 y2 y3 y4 y5 → W p l e rmX8_ofLowestTerms s m args below meth c H locs 0 0 (kn_Qi D tc w0 (fun (u : Unit) => []) (fun (r : Int32) (u : Unit) => post r) below args s 0 0) (F0 m 22 ls []) := by
  obtain ⟨S0, hr, hlocks, hK, hZ, hA⟩ := id X
  obtain ⟨hx, hb, hml, hown, hts⟩ := id S0
  intro n
  induction n with
  | zero =>
    intro H locs ls y0 y1 y2 y3 y4 y5 I hl h
    unfold PX8_ofLowestTerms_L22 at h
    exact h.elim
  | succ n ih =>
    intro H locs ls y0 y1 y2 y3 y4 y5 I hl h
    unfold PX8_ofLowestTerms_L22 at h
    refine lv_iload hx hb (kn_dec tX8_ofLowestTerms 14 rfl) (lv_at hl 5 rfl) ?_
    refine lv_bipush (v := (100)) hx hb (kn_dec tX8_ofLowestTerms 15 rfl) (by decide) ?_
    refine lv_icmp_ge (tgt := 53) hx hb (kn_dec tX8_ofLowestTerms 16 rfl) (by decide) (fun c1 => ?_) (fun c1 => ?_)
    · have h := h.1 c1
      exact wX8_ofLowestTerms_b53 X _ _ _ _ _ _ _  I (lv_sub hl [0, 1, 2, 3] rfl) h
    · have h := h.2 c1
      refine lv_iload hx hb (kn_dec tX8_ofLowestTerms 17 rfl) (lv_at hl 4 rfl) ?_
      refine lv_if_le (tgt := 53) hx hb (kn_dec tX8_ofLowestTerms 18 rfl) (by decide) (fun c2 => ?_) (fun c2 => ?_)
      · have h := h.1 c2
        exact wX8_ofLowestTerms_b53 X _ _ _ _ _ _ _  I (lv_sub hl [0, 1, 2, 3] rfl) h
      · have h := h.2 c2
        refine lv_iload_n hx hb (kn_dec tX8_ofLowestTerms 19 rfl) rfl (lv_at hl 3 rfl) ?_
        refine lv_iload hx hb (kn_dec tX8_ofLowestTerms 20 rfl) (lv_at hl 4 rfl) ?_
        obtain ⟨hs3, h⟩ := h
        refine lv_irem hx hb (kn_dec tX8_ofLowestTerms 21 rfl) hs3 ?_
        refine lv_topi (fun x4 ex4 => ?_)
        have h := h x4 ex4
        refine lv_istore (lv' := [(6, .int _), (0, .int _), (1, .int _), (2, .int _), (3, .int _), (4, .int _), (5, .int _)]) hx hb (kn_dec tX8_ofLowestTerms 22 rfl) hl (by decide) rfl (fun ls hl => ?_)
        refine lv_iload hx hb (kn_dec tX8_ofLowestTerms 23 rfl) (lv_at hl 5 rfl) ?_
        refine lv_istore_n (lv' := [(3, .int _), (6, .int _), (0, .int _), (1, .int _), (2, .int _), (4, .int _), (5, .int _)]) hx hb (kn_dec tX8_ofLowestTerms 24 rfl) rfl hl (by decide) rfl (fun ls hl => ?_)
        refine lv_iload hx hb (kn_dec tX8_ofLowestTerms 25 rfl) (lv_at hl 1 rfl) ?_
        refine lv_istore (lv' := [(4, .int _), (3, .int _), (6, .int _), (0, .int _), (1, .int _), (2, .int _), (5, .int _)]) hx hb (kn_dec tX8_ofLowestTerms 26 rfl) hl (by decide) rfl (fun ls hl => ?_)
        refine kw_iinc (lvf := fun y => [(5, .int y), (4, .int _), (3, .int _), (6, .int _), (0, .int _), (1, .int _), (2, .int _)]) (nv := (1)) hx hb (kn_dec tX8_ofLowestTerms 27 rfl) hl (k := 6) rfl (by decide) (by decide) (fun _ => rfl) (fun x5 ex5 ls hl => ?_)
        have h := h x5 ex5
        refine lv_goto (tgt := 22) hx hb (kn_dec tX8_ofLowestTerms 28 rfl) (by decide) ?_
        exact ih _ _ _ _ _ _ _ _ _  I (lv_sub hl [4, 5, 6, 2, 1, 0] rfl) h
def PX8_ofLowestTerms  (a0 : Int32) (a1 : Int32) (a2 : Int32) (post : Int32 → Prop) : Prop := ((((0 : Int32)) < a1 → (∃ n2 : Nat, PX8_ofLowestTerms_L22 post n2 a0 a1 a2 a1 a0 ((0 : Int32)))) ∧ (¬ ((0 : Int32)) < a1 → ((¬ a2 = ((0 : Int32)) → post ((1 : Int32))) ∧ (a2 = ((0 : Int32)) → post ((0 : Int32))))))
set_option maxRecDepth 100000 in
set_option maxHeartbeats 1000000 in
theorem ctX8_ofLowestTerms {l : Launch} {D : va_G} {tc : Nat → ClassId} {Z : (Nat → Nat) × (Nat → Nat)}   {a0 : Int32} {a1 : Int32} {a2 : Int32}    {post : Int32 → Prop} (h : PX8_ofLowestTerms  a0 a1 a2 post) : CTi l D tc Z yX8_ofLowestTerms (Cond.code yX8_ofLowestTerms cX8_ofLowestTerms 7 (some .int) :: kn_all) rmX8_ofLowestTerms 0 0 [.int a0, .int a1, .int a2] [] (fun (u : Unit) => []) (fun (r : Int32) (u : Unit) => post r) := by
  refine kn_ofi (cc := cX8_ofLowestTerms) (nL := 7) (ret := (some .int)) (lv := [(0, .int a0), (1, .int a1), (2, .int a2)]) (by decide) (Nat.le_of_ble_eq_true rfl) rfl (fun p e s m below meth c ls X I hl _ => ?_)
  obtain ⟨S0, hr, hlocks, hK, hZ, hA⟩ := id X
  obtain ⟨hx, hb, hml, hown, hts⟩ := id S0
  unfold PX8_ofLowestTerms at h
  refine lv_iload_n hx hb (kn_dec tX8_ofLowestTerms 0 rfl) rfl (lv_at hl 1 rfl) ?_
  refine lv_if_gt (tgt := 14) hx hb (kn_dec tX8_ofLowestTerms 1 rfl) (by decide) (fun c1 => ?_) (fun c1 => ?_)
  · have h := h.1 c1
    refine lv_iload_n hx hb (kn_dec tX8_ofLowestTerms 8 rfl) rfl (lv_at hl 1 rfl) ?_
    refine lv_istore_n (lv' := [(3, .int _), (0, .int _), (1, .int _), (2, .int _)]) hx hb (kn_dec tX8_ofLowestTerms 9 rfl) rfl hl (by decide) rfl (fun ls hl => ?_)
    refine lv_iload_n hx hb (kn_dec tX8_ofLowestTerms 10 rfl) rfl (lv_at hl 1 rfl) ?_
    refine lv_istore (lv' := [(4, .int _), (3, .int _), (0, .int _), (1, .int _), (2, .int _)]) hx hb (kn_dec tX8_ofLowestTerms 11 rfl) hl (by decide) rfl (fun ls hl => ?_)
    refine lv_iconst (v := (0)) hx hb (kn_dec tX8_ofLowestTerms 12 rfl) (by decide) ?_
    refine lv_istore (lv' := [(5, .int _), (4, .int _), (3, .int _), (0, .int _), (1, .int _), (2, .int _)]) hx hb (kn_dec tX8_ofLowestTerms 13 rfl) hl (by decide) rfl (fun ls hl => ?_)
    obtain ⟨n2, h⟩ := h
    exact wX8_ofLowestTerms_L22 X n2 _ _ _ _ _ _ _ _ _  I (lv_sub hl [3, 4, 5, 2, 1, 0] rfl) h
  · have h := h.2 c1
    refine lv_iload_n hx hb (kn_dec tX8_ofLowestTerms 2 rfl) rfl (lv_at hl 2 rfl) ?_
    refine lv_if_ne (tgt := 12) hx hb (kn_dec tX8_ofLowestTerms 3 rfl) (by decide) (fun c3 => ?_) (fun c3 => ?_)
    · have h := h.1 c3
      refine lv_iconst (v := (1)) hx hb (kn_dec tX8_ofLowestTerms 6 rfl) (by decide) ?_
      exact kw_iret hx hb hr hlocks I () rfl h (kn_dec tX8_ofLowestTerms 7 rfl)
    · have h := h.2 c3
      refine lv_iconst (v := (0)) hx hb (kn_dec tX8_ofLowestTerms 4 rfl) (by decide) ?_
      refine lv_goto (tgt := 13) hx hb (kn_dec tX8_ofLowestTerms 5 rfl) (by decide) ?_
      exact kw_iret hx hb hr hlocks I () rfl h (kn_dec tX8_ofLowestTerms 7 rfl)

/-! X8_hasStone -/
abbrev rmX8_hasStone : Room := { frames := 0, cells := 0, slots := 0, locals := 0 }
def PX8_hasStone  (v_t : OV) (v_c : OV) (v_h : OV) (a1 : Int32) (post : Int32 → Prop) : Prop := ((a1 < ((0 : Int32)) → post ((0 : Int32))) ∧ (¬ a1 < ((0 : Int32)) → (((v_h.1 4) ≤ a1 → post ((0 : Int32))) ∧ (¬ (v_h.1 4) ≤ a1 → post ((1 : Int32))))))
set_option maxRecDepth 100000 in
set_option maxHeartbeats 1000000 in
theorem ctX8_hasStone {l : Launch} {D : va_G} {tc : Nat → ClassId} {Z : (Nat → Nat) × (Nat → Nat)}  {ad_t : Nat → Nat} {ad_c : Nat → Nat} {ad_h : Nat → Nat} {v_t : OV} {v_c : OV} {v_h : OV} {a1 : Int32} (e_t_6 : ad_t (6 + 1) = ad_c 0) (e_c_0 : ad_c (0 + 1) = ad_h 0)   {post : Int32 → Prop} (h : PX8_hasStone  v_t v_c v_h a1 post) : CTi l D tc Z yX8_hasStone (Cond.code yX8_hasStone cX8_hasStone 2 (some .boolean) :: kn_all) rmX8_hasStone 0 0 [.ref (ad_t 0), .int a1] [(kTin, ad_t, v_t), (kScene, ad_c, v_c), (kHill, ad_h, v_h)] (fun (u : Unit) => [(kTin, ad_t, v_t), (kScene, ad_c, v_c), (kHill, ad_h, v_h)]) (fun (r : Int32) (u : Unit) => (r = 0 ∨ r = 1) ∧ post r) := by
  refine kn_ofi (cc := cX8_hasStone) (nL := 2) (ret := (some .boolean)) (lv := [(0, .ref (ad_t 0)), (1, .int a1)]) (by decide) (Nat.le_of_ble_eq_true rfl) rfl (fun p e s m below meth c ls X I hl _ => ?_)
  obtain ⟨S0, hr, hlocks, hK, hZ, hA⟩ := id X
  obtain ⟨hx, hb, hml, hown, hts⟩ := id S0
  unfold PX8_hasStone at h
  refine lv_iload_n hx hb (kn_dec tX8_hasStone 0 rfl) rfl (lv_at hl 1 rfl) ?_
  refine lv_if_lt (tgt := 22) hx hb (kn_dec tX8_hasStone 1 rfl) (by decide) (fun c1 => ?_) (fun c1 => ?_)
  · have h := h.1 c1
    refine lv_iconst (v := (0)) hx hb (kn_dec tX8_hasStone 10 rfl) (by decide) ?_
    exact kw_zret hx hb hr (kn_nz (Or.inl rfl)) hlocks I () rfl ⟨(Or.inl rfl), h⟩ (kn_dec tX8_hasStone 11 rfl)
  · have h := h.2 c1
    refine lv_iload_n hx hb (kn_dec tX8_hasStone 2 rfl) rfl (lv_at hl 1 rfl) ?_
    refine lv_aload_n hx hb (kn_dec tX8_hasStone 3 rfl) rfl (lv_at hl 0 rfl) ?_
    refine kw_getl hx hb hts inX8 hown hK I 0 rfl rfl 6 (by decide) rfl (hts _ q2_105) (kn_dec tX8_hasStone 4 rfl) e_t_6 ?_
    refine kw_getl hx hb hts inX5 hown hK I 1 rfl rfl 0 (by decide) rfl (hts _ q2_28) (kn_dec tX8_hasStone 5 rfl) e_c_0 ?_
    refine kw_geti hx hb hts inX0 hown hK I 2 rfl rfl 4 (by decide) rfl (hts _ q1_131) (kn_dec tX8_hasStone 6 rfl) ?_
    refine lv_icmp_ge (tgt := 22) hx hb (kn_dec tX8_hasStone 7 rfl) (by decide) (fun c2 => ?_) (fun c2 => ?_)
    · have h := h.1 c2
      refine lv_iconst (v := (0)) hx hb (kn_dec tX8_hasStone 10 rfl) (by decide) ?_
      exact kw_zret hx hb hr (kn_nz (Or.inl rfl)) hlocks I () rfl ⟨(Or.inl rfl), h⟩ (kn_dec tX8_hasStone 11 rfl)
    · have h := h.2 c2
      refine lv_iconst (v := (1)) hx hb (kn_dec tX8_hasStone 8 rfl) (by decide) ?_
      refine lv_goto (tgt := 23) hx hb (kn_dec tX8_hasStone 9 rfl) (by decide) ?_
      exact kw_zret hx hb hr (kn_nz (Or.inr rfl)) hlocks I () rfl ⟨(Or.inr rfl), h⟩ (kn_dec tX8_hasStone 11 rfl)

/-! X8_hasSeeker -/
abbrev rmX8_hasSeeker : Room := { frames := 0, cells := 0, slots := 0, locals := 0 }
def PX8_hasSeeker  (v_t : OV) (v_c : OV) (v_h : OV) (a1 : Int32) (post : Int32 → Prop) : Prop := ((a1 < ((0 : Int32)) → post ((0 : Int32))) ∧ (¬ a1 < ((0 : Int32)) → (((v_h.1 11) ≤ a1 → post ((0 : Int32))) ∧ (¬ (v_h.1 11) ≤ a1 → post ((1 : Int32))))))
set_option maxRecDepth 100000 in
set_option maxHeartbeats 1000000 in
theorem ctX8_hasSeeker {l : Launch} {D : va_G} {tc : Nat → ClassId} {Z : (Nat → Nat) × (Nat → Nat)}  {ad_t : Nat → Nat} {ad_c : Nat → Nat} {ad_h : Nat → Nat} {v_t : OV} {v_c : OV} {v_h : OV} {a1 : Int32} (e_t_6 : ad_t (6 + 1) = ad_c 0) (e_c_0 : ad_c (0 + 1) = ad_h 0)   {post : Int32 → Prop} (h : PX8_hasSeeker  v_t v_c v_h a1 post) : CTi l D tc Z yX8_hasSeeker (Cond.code yX8_hasSeeker cX8_hasSeeker 2 (some .boolean) :: kn_all) rmX8_hasSeeker 0 0 [.ref (ad_t 0), .int a1] [(kTin, ad_t, v_t), (kScene, ad_c, v_c), (kHill, ad_h, v_h)] (fun (u : Unit) => [(kTin, ad_t, v_t), (kScene, ad_c, v_c), (kHill, ad_h, v_h)]) (fun (r : Int32) (u : Unit) => (r = 0 ∨ r = 1) ∧ post r) := by
  refine kn_ofi (cc := cX8_hasSeeker) (nL := 2) (ret := (some .boolean)) (lv := [(0, .ref (ad_t 0)), (1, .int a1)]) (by decide) (Nat.le_of_ble_eq_true rfl) rfl (fun p e s m below meth c ls X I hl _ => ?_)
  obtain ⟨S0, hr, hlocks, hK, hZ, hA⟩ := id X
  obtain ⟨hx, hb, hml, hown, hts⟩ := id S0
  unfold PX8_hasSeeker at h
  refine lv_iload_n hx hb (kn_dec tX8_hasSeeker 0 rfl) rfl (lv_at hl 1 rfl) ?_
  refine lv_if_lt (tgt := 22) hx hb (kn_dec tX8_hasSeeker 1 rfl) (by decide) (fun c1 => ?_) (fun c1 => ?_)
  · have h := h.1 c1
    refine lv_iconst (v := (0)) hx hb (kn_dec tX8_hasSeeker 10 rfl) (by decide) ?_
    exact kw_zret hx hb hr (kn_nz (Or.inl rfl)) hlocks I () rfl ⟨(Or.inl rfl), h⟩ (kn_dec tX8_hasSeeker 11 rfl)
  · have h := h.2 c1
    refine lv_iload_n hx hb (kn_dec tX8_hasSeeker 2 rfl) rfl (lv_at hl 1 rfl) ?_
    refine lv_aload_n hx hb (kn_dec tX8_hasSeeker 3 rfl) rfl (lv_at hl 0 rfl) ?_
    refine kw_getl hx hb hts inX8 hown hK I 0 rfl rfl 6 (by decide) rfl (hts _ q2_105) (kn_dec tX8_hasSeeker 4 rfl) e_t_6 ?_
    refine kw_getl hx hb hts inX5 hown hK I 1 rfl rfl 0 (by decide) rfl (hts _ q2_28) (kn_dec tX8_hasSeeker 5 rfl) e_c_0 ?_
    refine kw_geti hx hb hts inX0 hown hK I 2 rfl rfl 11 (by decide) rfl (hts _ q1_156) (kn_dec tX8_hasSeeker 6 rfl) ?_
    refine lv_icmp_ge (tgt := 22) hx hb (kn_dec tX8_hasSeeker 7 rfl) (by decide) (fun c2 => ?_) (fun c2 => ?_)
    · have h := h.1 c2
      refine lv_iconst (v := (0)) hx hb (kn_dec tX8_hasSeeker 10 rfl) (by decide) ?_
      exact kw_zret hx hb hr (kn_nz (Or.inl rfl)) hlocks I () rfl ⟨(Or.inl rfl), h⟩ (kn_dec tX8_hasSeeker 11 rfl)
    · have h := h.2 c2
      refine lv_iconst (v := (1)) hx hb (kn_dec tX8_hasSeeker 8 rfl) (by decide) ?_
      refine lv_goto (tgt := 23) hx hb (kn_dec tX8_hasSeeker 9 rfl) (by decide) ?_
      exact kw_zret hx hb hr (kn_nz (Or.inr rfl)) hlocks I () rfl ⟨(Or.inr rfl), h⟩ (kn_dec tX8_hasSeeker 11 rfl)

/-! X8_isTold -/
abbrev rmX8_isTold : Room := { frames := 1, cells := 0, slots := 0, locals := 20 }
def PX8_isTold  (v_t : OV) (v_c : OV) (v_h : OV) (a1 : Int32) (post : Int32 → Prop) : Prop := (((v_h.1 0) = ((0 : Int32)) → post ((0 : Int32))) ∧ (¬ (v_h.1 0) = ((0 : Int32)) → (PX8_isPart a1 (fun r2 => ((r2 = ((0 : Int32)) → post ((0 : Int32))) ∧ (¬ r2 = ((0 : Int32)) → post ((1 : Int32))))))))
set_option maxRecDepth 100000 in
set_option maxHeartbeats 1000000 in
theorem ctX8_isTold {l : Launch} {D : va_G} {tc : Nat → ClassId} {Z : (Nat → Nat) × (Nat → Nat)}  {ad_t : Nat → Nat} {ad_c : Nat → Nat} {ad_h : Nat → Nat} {v_t : OV} {v_c : OV} {v_h : OV} {a1 : Int32} (e_t_6 : ad_t (6 + 1) = ad_c 0) (e_c_0 : ad_c (0 + 1) = ad_h 0)   {post : Int32 → Prop} (h : PX8_isTold  v_t v_c v_h a1 post) : CTi l D tc Z yX8_isTold (Cond.code yX8_isTold cX8_isTold 2 (some .boolean) :: kn_all) rmX8_isTold 0 0 [.ref (ad_t 0), .int a1] [(kTin, ad_t, v_t), (kScene, ad_c, v_c), (kHill, ad_h, v_h)] (fun (u : Unit) => [(kTin, ad_t, v_t), (kScene, ad_c, v_c), (kHill, ad_h, v_h)]) (fun (r : Int32) (u : Unit) => (r = 0 ∨ r = 1) ∧ post r) := by
  refine kn_ofi (cc := cX8_isTold) (nL := 2) (ret := (some .boolean)) (lv := [(0, .ref (ad_t 0)), (1, .int a1)]) (by decide) (Nat.le_of_ble_eq_true rfl) rfl (fun p e s m below meth c ls X I hl _ => ?_)
  obtain ⟨S0, hr, hlocks, hK, hZ, hA⟩ := id X
  obtain ⟨hx, hb, hml, hown, hts⟩ := id S0
  unfold PX8_isTold at h
  refine lv_aload_n hx hb (kn_dec tX8_isTold 0 rfl) rfl (lv_at hl 0 rfl) ?_
  refine kw_getl hx hb hts inX8 hown hK I 0 rfl rfl 6 (by decide) rfl (hts _ q2_105) (kn_dec tX8_isTold 1 rfl) e_t_6 ?_
  refine kw_getl hx hb hts inX5 hown hK I 1 rfl rfl 0 (by decide) rfl (hts _ q2_28) (kn_dec tX8_isTold 2 rfl) e_c_0 ?_
  refine kw_geti hx hb hts inX0 hown hK I 2 rfl rfl 0 (by decide) rfl (hts _ q1_119) (kn_dec tX8_isTold 3 rfl) ?_
  refine lv_if_eq (tgt := 24) hx hb (kn_dec tX8_isTold 4 rfl) (by decide) (fun c1 => ?_) (fun c1 => ?_)
  · have h := h.1 c1
    refine lv_iconst (v := (0)) hx hb (kn_dec tX8_isTold 10 rfl) (by decide) ?_
    exact kw_zret hx hb hr (kn_nz (Or.inl rfl)) hlocks I () rfl ⟨(Or.inl rfl), h⟩ (kn_dec tX8_isTold 11 rfl)
  · have h := h.2 c1
    refine lv_iload_n hx hb (kn_dec tX8_isTold 5 rfl) rfl (lv_at hl 1 rfl) ?_
    refine kw_calli (wc := []) (wr := [(kTin, ad_t, _), (kScene, ad_c, _), (kHill, ad_h, _)]) I hA [] [0, 1, 2] rfl rfl (by decide) (by decide) (kn_runS (As := [.int _]) S0 hK hZ hA I ((ctX8_isPart h).met _) (kn_cwS 1 hts q4_62 q4_63 q1_1 q4_64 rfl rfl (by decide +kernel) ⟨(Nat.le_of_ble_eq_true rfl), (Nat.le_of_ble_eq_true rfl)⟩) [] rfl (by decide) rfl hl.1 rfl (Nat.le_of_ble_eq_true rfl) (kn_dec tX8_isTold 6 rfl) ⟨(Nat.le_of_ble_eq_true rfl), (Nat.le_of_ble_eq_true rfl)⟩) (fun r2 u3 H locs h I => ?_)
    obtain ⟨hz_r2, h⟩ := h
    have I : kn_I D tc (kn_A _ s.heap.size) s.heap [(kTin, ad_t, _), (kScene, ad_c, _), (kHill, ad_h, _)] _ _ := I
    refine lv_if_eq (tgt := 24) hx hb (kn_dec tX8_isTold 7 rfl) (by decide) (fun c4 => ?_) (fun c4 => ?_)
    · have h := h.1 c4
      refine lv_iconst (v := (0)) hx hb (kn_dec tX8_isTold 10 rfl) (by decide) ?_
      exact kw_zret hx hb hr (kn_nz (Or.inl rfl)) hlocks I () rfl ⟨(Or.inl rfl), h⟩ (kn_dec tX8_isTold 11 rfl)
    · have h := h.2 c4
      refine lv_iconst (v := (1)) hx hb (kn_dec tX8_isTold 8 rfl) (by decide) ?_
      refine lv_goto (tgt := 25) hx hb (kn_dec tX8_isTold 9 rfl) (by decide) ?_
      exact kw_zret hx hb hr (kn_nz (Or.inr rfl)) hlocks I () rfl ⟨(Or.inr rfl), h⟩ (kn_dec tX8_isTold 11 rfl)

/-! X8_stone -/
abbrev rmX8_stone : Room := { frames := 1, cells := 0, slots := 0, locals := 23 }
def PX8_stone  (v_t : OV) (v_c : OV) (v_h : OV) (v_s : OV) (a1 : Int32) (a2 : Int32) (post : Int32 → Prop) : Prop := (PX8_hasStone v_t v_c v_h a1 (fun r1 => ((¬ r1 = ((0 : Int32)) → ((a2 = (0 : Int32) → (vp_in a1 10 ∧ post (v_h.2.1 5 a1.toNatClampNeg))) ∧ (¬ a2 = (0 : Int32) → ((a2 = (1 : Int32) → (vp_in a1 10 ∧ post (v_h.2.1 6 a1.toNatClampNeg))) ∧ (¬ a2 = (1 : Int32) → ((a2 = (2 : Int32) → (vp_in a1 10 ∧ post (v_h.2.1 7 a1.toNatClampNeg))) ∧ (¬ a2 = (2 : Int32) → ((a2 = (3 : Int32) → (vp_in a1 10 ∧ post (v_s.2.1 3 a1.toNatClampNeg))) ∧ (¬ a2 = (3 : Int32) → ((a2 = (4 : Int32) → (PX6_triedBy v_s a1 (fun r13 => post r13))) ∧ (¬ a2 = (4 : Int32) → post ((-1 : Int32))))))))))))) ∧ (r1 = ((0 : Int32)) → post ((-1 : Int32))))))
set_option maxRecDepth 100000 in
set_option maxHeartbeats 1000000 in
theorem ctX8_stone {l : Launch} {D : va_G} {tc : Nat → ClassId} {Z : (Nat → Nat) × (Nat → Nat)}  {ad_t : Nat → Nat} {ad_c : Nat → Nat} {ad_h : Nat → Nat} {ad_s : Nat → Nat} {v_t : OV} {v_c : OV} {v_h : OV} {v_s : OV} {a1 : Int32} {a2 : Int32} (e_t_6 : ad_t (6 + 1) = ad_c 0) (e_c_0 : ad_c (0 + 1) = ad_h 0) (e_c_3 : ad_c (3 + 1) = ad_s 0)   {post : Int32 → Prop} (h : PX8_stone  v_t v_c v_h v_s a1 a2 post) : CTi l D tc Z yX8_stone (Cond.code yX8_stone cX8_stone 3 (some .int) :: kn_all) rmX8_stone 0 0 [.ref (ad_t 0), .int a1, .int a2] [(kTin, ad_t, v_t), (kScene, ad_c, v_c), (kHill, ad_h, v_h), (kState, ad_s, v_s)] (fun (u : Unit) => [(kTin, ad_t, v_t), (kScene, ad_c, v_c), (kHill, ad_h, v_h), (kState, ad_s, v_s)]) (fun (r : Int32) (u : Unit) => post r) := by
  refine kn_ofi (cc := cX8_stone) (nL := 3) (ret := (some .int)) (lv := [(0, .ref (ad_t 0)), (1, .int a1), (2, .int a2)]) (by decide) (Nat.le_of_ble_eq_true rfl) rfl (fun p e s m below meth c ls X I hl _ => ?_)
  obtain ⟨S0, hr, hlocks, hK, hZ, hA⟩ := id X
  obtain ⟨hx, hb, hml, hown, hts⟩ := id S0
  unfold PX8_stone at h
  refine lv_aload_n hx hb (kn_dec tX8_stone 0 rfl) rfl (lv_at hl 0 rfl) ?_
  refine lv_iload_n hx hb (kn_dec tX8_stone 1 rfl) rfl (lv_at hl 1 rfl) ?_
  refine kw_calli (wc := [(kTin, ad_t, _), (kScene, ad_c, _), (kHill, ad_h, _)]) (wr := [(kState, ad_s, _)]) I hA [0, 1, 2] [3] rfl rfl (by decide) (by decide) (kn_runV (As := [.int _]) S0 hK hZ hA I ((ctX8_hasStone e_t_6 e_c_0 h).met _) (kn_cwV 1 hts q3_142 q3_144 q0_12 q1_1 q3_145 rfl rfl (by decide +kernel) ⟨(Nat.le_of_ble_eq_true rfl), (Nat.le_of_ble_eq_true rfl)⟩) [0, 1, 2] rfl (by decide) 0 rfl rfl rfl rfl hl.1 rfl (Nat.le_of_ble_eq_true rfl) (kn_dec tX8_stone 2 rfl) ⟨(Nat.le_of_ble_eq_true rfl), (Nat.le_of_ble_eq_true rfl)⟩) (fun r1 u2 H locs h I => ?_)
  obtain ⟨hz_r1, h⟩ := h
  have I : kn_I D tc (kn_A _ s.heap.size) s.heap [(kTin, ad_t, _), (kScene, ad_c, _), (kHill, ad_h, _), (kState, ad_s, _)] _ _ := I.sub [1, 2, 3, 0] (by decide) rfl
  refine lv_if_ne (tgt := 10) hx hb (kn_dec tX8_stone 3 rfl) (by decide) (fun c3 => ?_) (fun c3 => ?_)
  · have h := h.1 c3
    refine lv_iload_n hx hb (kn_dec tX8_stone 6 rfl) rfl (lv_at hl 2 rfl) ?_
    rcases Classical.em (a2 = (0 : Int32)) with c4 | c4
    · have h := h.1 c4
      refine lv_tableIn (off := 33) (tgt := 44) hx hb (kn_dec tX8_stone 7 rfl) (by rw [c4]; decide) (by rw [c4]; decide) (by rw [c4]; rfl) (by decide) ?_
      refine lv_aload_n hx hb (kn_dec tX8_stone 8 rfl) rfl (lv_at hl 0 rfl) ?_
      refine kw_getl hx hb hts inX8 hown hK I 0 rfl rfl 6 (by decide) rfl (hts _ q2_105) (kn_dec tX8_stone 9 rfl) e_t_6 ?_
      refine kw_getl hx hb hts inX5 hown hK I 1 rfl rfl 0 (by decide) rfl (hts _ q2_28) (kn_dec tX8_stone 10 rfl) e_c_0 ?_
      refine kw_getl hx hb hts inX0 hown hK I 2 rfl rfl 5 (by decide) rfl (hts _ q1_136) (kn_dec tX8_stone 11 rfl) rfl ?_
      refine lv_iload_n hx hb (kn_dec tX8_stone 12 rfl) rfl (lv_at hl 1 rfl) ?_
      obtain ⟨hs5, h⟩ := h
      refine kw_iald hx hb hK I 2 rfl 5 10 (List.mem_of_getElem? (i := 0) rfl) hs5 (kn_dec tX8_stone 13 rfl) ?_
      exact kw_iret hx hb hr hlocks I () rfl h (kn_dec tX8_stone 14 rfl)
    · have h := h.2 c4
      rcases Classical.em (a2 = (1 : Int32)) with c6 | c6
      · have h := h.1 c6
        refine lv_tableIn (off := 46) (tgt := 57) hx hb (kn_dec tX8_stone 7 rfl) (by rw [c6]; decide) (by rw [c6]; decide) (by rw [c6]; rfl) (by decide) ?_
        refine lv_aload_n hx hb (kn_dec tX8_stone 15 rfl) rfl (lv_at hl 0 rfl) ?_
        refine kw_getl hx hb hts inX8 hown hK I 0 rfl rfl 6 (by decide) rfl (hts _ q2_105) (kn_dec tX8_stone 16 rfl) e_t_6 ?_
        refine kw_getl hx hb hts inX5 hown hK I 1 rfl rfl 0 (by decide) rfl (hts _ q2_28) (kn_dec tX8_stone 17 rfl) e_c_0 ?_
        refine kw_getl hx hb hts inX0 hown hK I 2 rfl rfl 6 (by decide) rfl (hts _ q1_140) (kn_dec tX8_stone 18 rfl) rfl ?_
        refine lv_iload_n hx hb (kn_dec tX8_stone 19 rfl) rfl (lv_at hl 1 rfl) ?_
        obtain ⟨hs7, h⟩ := h
        refine kw_iald hx hb hK I 2 rfl 6 10 (List.mem_of_getElem? (i := 1) rfl) hs7 (kn_dec tX8_stone 20 rfl) ?_
        exact kw_iret hx hb hr hlocks I () rfl h (kn_dec tX8_stone 21 rfl)
      · have h := h.2 c6
        rcases Classical.em (a2 = (2 : Int32)) with c8 | c8
        · have h := h.1 c8
          refine lv_tableIn (off := 59) (tgt := 70) hx hb (kn_dec tX8_stone 7 rfl) (by rw [c8]; decide) (by rw [c8]; decide) (by rw [c8]; rfl) (by decide) ?_
          refine lv_aload_n hx hb (kn_dec tX8_stone 22 rfl) rfl (lv_at hl 0 rfl) ?_
          refine kw_getl hx hb hts inX8 hown hK I 0 rfl rfl 6 (by decide) rfl (hts _ q2_105) (kn_dec tX8_stone 23 rfl) e_t_6 ?_
          refine kw_getl hx hb hts inX5 hown hK I 1 rfl rfl 0 (by decide) rfl (hts _ q2_28) (kn_dec tX8_stone 24 rfl) e_c_0 ?_
          refine kw_getl hx hb hts inX0 hown hK I 2 rfl rfl 7 (by decide) rfl (hts _ q1_144) (kn_dec tX8_stone 25 rfl) rfl ?_
          refine lv_iload_n hx hb (kn_dec tX8_stone 26 rfl) rfl (lv_at hl 1 rfl) ?_
          obtain ⟨hs9, h⟩ := h
          refine kw_iald hx hb hK I 2 rfl 7 10 (List.mem_of_getElem? (i := 2) rfl) hs9 (kn_dec tX8_stone 27 rfl) ?_
          exact kw_iret hx hb hr hlocks I () rfl h (kn_dec tX8_stone 28 rfl)
        · have h := h.2 c8
          rcases Classical.em (a2 = (3 : Int32)) with c10 | c10
          · have h := h.1 c10
            refine lv_tableIn (off := 72) (tgt := 83) hx hb (kn_dec tX8_stone 7 rfl) (by rw [c10]; decide) (by rw [c10]; decide) (by rw [c10]; rfl) (by decide) ?_
            refine lv_aload_n hx hb (kn_dec tX8_stone 29 rfl) rfl (lv_at hl 0 rfl) ?_
            refine kw_getl hx hb hts inX8 hown hK I 0 rfl rfl 6 (by decide) rfl (hts _ q2_105) (kn_dec tX8_stone 30 rfl) e_t_6 ?_
            refine kw_getl hx hb hts inX5 hown hK I 1 rfl rfl 3 (by decide) rfl (hts _ q2_34) (kn_dec tX8_stone 31 rfl) e_c_3 ?_
            refine kw_getl hx hb hts inX6 hown hK I 3 rfl rfl 3 (by decide) rfl (hts _ q1_231) (kn_dec tX8_stone 32 rfl) rfl ?_
            refine lv_iload_n hx hb (kn_dec tX8_stone 33 rfl) rfl (lv_at hl 1 rfl) ?_
            obtain ⟨hs11, h⟩ := h
            refine kw_iald hx hb hK I 3 rfl 3 10 (List.mem_of_getElem? (i := 0) rfl) hs11 (kn_dec tX8_stone 34 rfl) ?_
            exact kw_iret hx hb hr hlocks I () rfl h (kn_dec tX8_stone 35 rfl)
          · have h := h.2 c10
            rcases Classical.em (a2 = (4 : Int32)) with c12 | c12
            · have h := h.1 c12
              refine lv_tableIn (off := 85) (tgt := 96) hx hb (kn_dec tX8_stone 7 rfl) (by rw [c12]; decide) (by rw [c12]; decide) (by rw [c12]; rfl) (by decide) ?_
              refine lv_aload_n hx hb (kn_dec tX8_stone 36 rfl) rfl (lv_at hl 0 rfl) ?_
              refine kw_getl hx hb hts inX8 hown hK I 0 rfl rfl 6 (by decide) rfl (hts _ q2_105) (kn_dec tX8_stone 37 rfl) e_t_6 ?_
              refine kw_getl hx hb hts inX5 hown hK I 1 rfl rfl 3 (by decide) rfl (hts _ q2_34) (kn_dec tX8_stone 38 rfl) e_c_3 ?_
              refine lv_iload_n hx hb (kn_dec tX8_stone 39 rfl) rfl (lv_at hl 1 rfl) ?_
              refine kw_calli (wc := [(kState, ad_s, _)]) (wr := [(kTin, ad_t, _), (kScene, ad_c, _), (kHill, ad_h, _)]) I hA [3] [0, 1, 2] rfl rfl (by decide) (by decide) (kn_runV (As := [.int _]) S0 hK hZ hA I ((ctX6_triedBy h).met _) (kn_cwV 1 hts q3_146 q3_147 q3_148 q1_8 q3_149 rfl rfl (by decide +kernel) ⟨(Nat.le_of_ble_eq_true rfl), (Nat.le_of_ble_eq_true rfl)⟩) [3] rfl (by decide) 3 rfl rfl rfl rfl hl.1 rfl (Nat.le_of_ble_eq_true rfl) (kn_dec tX8_stone 40 rfl) ⟨(Nat.le_of_ble_eq_true rfl), (Nat.le_of_ble_eq_true rfl)⟩) (fun r13 u14 H locs h I => ?_)
              have I : kn_I D tc (kn_A _ s.heap.size) s.heap [(kTin, ad_t, _), (kScene, ad_c, _), (kHill, ad_h, _), (kState, ad_s, _)] _ _ := I
              exact kw_iret hx hb hr hlocks I () rfl h (kn_dec tX8_stone 41 rfl)
            · have h := h.2 c12
              refine lv_tableOut (tgt := 108) hx hb (kn_dec tX8_stone 7 rfl) (by have z0 := kn_nei (k := 0) c4 (by decide); have z1 := kn_nei (k := 1) c6 (by decide); have z2 := kn_nei (k := 2) c8 (by decide); have z3 := kn_nei (k := 3) c10 (by decide); have z4 := kn_nei (k := 4) c12 (by decide); omega) (by decide) ?_
              refine lv_iconst (v := (-1)) hx hb (kn_dec tX8_stone 42 rfl) (by decide) ?_
              exact kw_iret hx hb hr hlocks I () rfl h (kn_dec tX8_stone 43 rfl)
  · have h := h.2 c3
    refine lv_iconst (v := (-1)) hx hb (kn_dec tX8_stone 4 rfl) (by decide) ?_
    exact kw_iret hx hb hr hlocks I () rfl h (kn_dec tX8_stone 5 rfl)

/-! X8_seeker -/
abbrev rmX8_seeker : Room := { frames := 1, cells := 0, slots := 0, locals := 21 }
def PX8_seeker  (v_t : OV) (v_c : OV) (v_h : OV) (v_s : OV) (a1 : Int32) (a2 : Int32) (post : Int32 → Prop) : Prop := (PX8_hasSeeker v_t v_c v_h a1 (fun r1 => ((¬ r1 = ((0 : Int32)) → ((a2 = (0 : Int32) → (vp_in a1 4 ∧ post (v_h.2.1 12 a1.toNatClampNeg))) ∧ (¬ a2 = (0 : Int32) → ((a2 = (1 : Int32) → (vp_in a1 4 ∧ post (v_h.2.1 13 a1.toNatClampNeg))) ∧ (¬ a2 = (1 : Int32) → ((a2 = (2 : Int32) → (vp_in a1 4 ∧ post (v_s.2.1 5 a1.toNatClampNeg))) ∧ (¬ a2 = (2 : Int32) → ((a2 = (3 : Int32) → (vp_in a1 4 ∧ post (v_h.2.1 15 a1.toNatClampNeg))) ∧ (¬ a2 = (3 : Int32) → ((a2 = (4 : Int32) → (vp_in a1 4 ∧ post (v_s.2.1 6 a1.toNatClampNeg))) ∧ (¬ a2 = (4 : Int32) → ((a2 = (5 : Int32) → (vp_in a1 4 ∧ post (v_s.2.1 7 a1.toNatClampNeg))) ∧ (¬ a2 = (5 : Int32) → ((a2 = (6 : Int32) → (vp_in a1 4 ∧ post (v_s.2.1 8 a1.toNatClampNeg))) ∧ (¬ a2 = (6 : Int32) → post ((-2 : Int32))))))))))))))))) ∧ (r1 = ((0 : Int32)) → post ((-2 : Int32))))))
set_option maxRecDepth 100000 in
set_option maxHeartbeats 1000000 in
theorem ctX8_seeker {l : Launch} {D : va_G} {tc : Nat → ClassId} {Z : (Nat → Nat) × (Nat → Nat)}  {ad_t : Nat → Nat} {ad_c : Nat → Nat} {ad_h : Nat → Nat} {ad_s : Nat → Nat} {v_t : OV} {v_c : OV} {v_h : OV} {v_s : OV} {a1 : Int32} {a2 : Int32} (e_t_6 : ad_t (6 + 1) = ad_c 0) (e_c_0 : ad_c (0 + 1) = ad_h 0) (e_c_3 : ad_c (3 + 1) = ad_s 0)   {post : Int32 → Prop} (h : PX8_seeker  v_t v_c v_h v_s a1 a2 post) : CTi l D tc Z yX8_seeker (Cond.code yX8_seeker cX8_seeker 3 (some .int) :: kn_all) rmX8_seeker 0 0 [.ref (ad_t 0), .int a1, .int a2] [(kTin, ad_t, v_t), (kScene, ad_c, v_c), (kHill, ad_h, v_h), (kState, ad_s, v_s)] (fun (u : Unit) => [(kTin, ad_t, v_t), (kScene, ad_c, v_c), (kHill, ad_h, v_h), (kState, ad_s, v_s)]) (fun (r : Int32) (u : Unit) => post r) := by
  refine kn_ofi (cc := cX8_seeker) (nL := 3) (ret := (some .int)) (lv := [(0, .ref (ad_t 0)), (1, .int a1), (2, .int a2)]) (by decide) (Nat.le_of_ble_eq_true rfl) rfl (fun p e s m below meth c ls X I hl _ => ?_)
  obtain ⟨S0, hr, hlocks, hK, hZ, hA⟩ := id X
  obtain ⟨hx, hb, hml, hown, hts⟩ := id S0
  unfold PX8_seeker at h
  refine lv_aload_n hx hb (kn_dec tX8_seeker 0 rfl) rfl (lv_at hl 0 rfl) ?_
  refine lv_iload_n hx hb (kn_dec tX8_seeker 1 rfl) rfl (lv_at hl 1 rfl) ?_
  refine kw_calli (wc := [(kTin, ad_t, _), (kScene, ad_c, _), (kHill, ad_h, _)]) (wr := [(kState, ad_s, _)]) I hA [0, 1, 2] [3] rfl rfl (by decide) (by decide) (kn_runV (As := [.int _]) S0 hK hZ hA I ((ctX8_hasSeeker e_t_6 e_c_0 h).met _) (kn_cwV 1 hts q3_154 q3_156 q0_13 q1_1 q3_157 rfl rfl (by decide +kernel) ⟨(Nat.le_of_ble_eq_true rfl), (Nat.le_of_ble_eq_true rfl)⟩) [0, 1, 2] rfl (by decide) 0 rfl rfl rfl rfl hl.1 rfl (Nat.le_of_ble_eq_true rfl) (kn_dec tX8_seeker 2 rfl) ⟨(Nat.le_of_ble_eq_true rfl), (Nat.le_of_ble_eq_true rfl)⟩) (fun r1 u2 H locs h I => ?_)
  obtain ⟨hz_r1, h⟩ := h
  have I : kn_I D tc (kn_A _ s.heap.size) s.heap [(kTin, ad_t, _), (kScene, ad_c, _), (kHill, ad_h, _), (kState, ad_s, _)] _ _ := I.sub [1, 2, 3, 0] (by decide) rfl
  refine lv_if_ne (tgt := 11) hx hb (kn_dec tX8_seeker 3 rfl) (by decide) (fun c3 => ?_) (fun c3 => ?_)
  · have h := h.1 c3
    refine lv_iload_n hx hb (kn_dec tX8_seeker 6 rfl) rfl (lv_at hl 2 rfl) ?_
    rcases Classical.em (a2 = (0 : Int32)) with c4 | c4
    · have h := h.1 c4
      refine lv_tableIn (off := 44) (tgt := 56) hx hb (kn_dec tX8_seeker 7 rfl) (by rw [c4]; decide) (by rw [c4]; decide) (by rw [c4]; rfl) (by decide) ?_
      refine lv_aload_n hx hb (kn_dec tX8_seeker 8 rfl) rfl (lv_at hl 0 rfl) ?_
      refine kw_getl hx hb hts inX8 hown hK I 0 rfl rfl 6 (by decide) rfl (hts _ q2_105) (kn_dec tX8_seeker 9 rfl) e_t_6 ?_
      refine kw_getl hx hb hts inX5 hown hK I 1 rfl rfl 0 (by decide) rfl (hts _ q2_28) (kn_dec tX8_seeker 10 rfl) e_c_0 ?_
      refine kw_getl hx hb hts inX0 hown hK I 2 rfl rfl 12 (by decide) rfl (hts _ q1_160) (kn_dec tX8_seeker 11 rfl) rfl ?_
      refine lv_iload_n hx hb (kn_dec tX8_seeker 12 rfl) rfl (lv_at hl 1 rfl) ?_
      obtain ⟨hs5, h⟩ := h
      refine kw_iald hx hb hK I 2 rfl 12 4 (List.mem_of_getElem? (i := 4) rfl) hs5 (kn_dec tX8_seeker 13 rfl) ?_
      exact kw_iret hx hb hr hlocks I () rfl h (kn_dec tX8_seeker 14 rfl)
    · have h := h.2 c4
      rcases Classical.em (a2 = (1 : Int32)) with c6 | c6
      · have h := h.1 c6
        refine lv_tableIn (off := 57) (tgt := 69) hx hb (kn_dec tX8_seeker 7 rfl) (by rw [c6]; decide) (by rw [c6]; decide) (by rw [c6]; rfl) (by decide) ?_
        refine lv_aload_n hx hb (kn_dec tX8_seeker 15 rfl) rfl (lv_at hl 0 rfl) ?_
        refine kw_getl hx hb hts inX8 hown hK I 0 rfl rfl 6 (by decide) rfl (hts _ q2_105) (kn_dec tX8_seeker 16 rfl) e_t_6 ?_
        refine kw_getl hx hb hts inX5 hown hK I 1 rfl rfl 0 (by decide) rfl (hts _ q2_28) (kn_dec tX8_seeker 17 rfl) e_c_0 ?_
        refine kw_getl hx hb hts inX0 hown hK I 2 rfl rfl 13 (by decide) rfl (hts _ q1_164) (kn_dec tX8_seeker 18 rfl) rfl ?_
        refine lv_iload_n hx hb (kn_dec tX8_seeker 19 rfl) rfl (lv_at hl 1 rfl) ?_
        obtain ⟨hs7, h⟩ := h
        refine kw_iald hx hb hK I 2 rfl 13 4 (List.mem_of_getElem? (i := 5) rfl) hs7 (kn_dec tX8_seeker 20 rfl) ?_
        exact kw_iret hx hb hr hlocks I () rfl h (kn_dec tX8_seeker 21 rfl)
      · have h := h.2 c6
        rcases Classical.em (a2 = (2 : Int32)) with c8 | c8
        · have h := h.1 c8
          refine lv_tableIn (off := 70) (tgt := 82) hx hb (kn_dec tX8_seeker 7 rfl) (by rw [c8]; decide) (by rw [c8]; decide) (by rw [c8]; rfl) (by decide) ?_
          refine lv_aload_n hx hb (kn_dec tX8_seeker 22 rfl) rfl (lv_at hl 0 rfl) ?_
          refine kw_getl hx hb hts inX8 hown hK I 0 rfl rfl 6 (by decide) rfl (hts _ q2_105) (kn_dec tX8_seeker 23 rfl) e_t_6 ?_
          refine kw_getl hx hb hts inX5 hown hK I 1 rfl rfl 3 (by decide) rfl (hts _ q2_34) (kn_dec tX8_seeker 24 rfl) e_c_3 ?_
          refine kw_getl hx hb hts inX6 hown hK I 3 rfl rfl 5 (by decide) rfl (hts _ q1_237) (kn_dec tX8_seeker 25 rfl) rfl ?_
          refine lv_iload_n hx hb (kn_dec tX8_seeker 26 rfl) rfl (lv_at hl 1 rfl) ?_
          obtain ⟨hs9, h⟩ := h
          refine kw_iald hx hb hK I 3 rfl 5 4 (List.mem_of_getElem? (i := 2) rfl) hs9 (kn_dec tX8_seeker 27 rfl) ?_
          exact kw_iret hx hb hr hlocks I () rfl h (kn_dec tX8_seeker 28 rfl)
        · have h := h.2 c8
          rcases Classical.em (a2 = (3 : Int32)) with c10 | c10
          · have h := h.1 c10
            refine lv_tableIn (off := 83) (tgt := 95) hx hb (kn_dec tX8_seeker 7 rfl) (by rw [c10]; decide) (by rw [c10]; decide) (by rw [c10]; rfl) (by decide) ?_
            refine lv_aload_n hx hb (kn_dec tX8_seeker 29 rfl) rfl (lv_at hl 0 rfl) ?_
            refine kw_getl hx hb hts inX8 hown hK I 0 rfl rfl 6 (by decide) rfl (hts _ q2_105) (kn_dec tX8_seeker 30 rfl) e_t_6 ?_
            refine kw_getl hx hb hts inX5 hown hK I 1 rfl rfl 0 (by decide) rfl (hts _ q2_28) (kn_dec tX8_seeker 31 rfl) e_c_0 ?_
            refine kw_getl hx hb hts inX0 hown hK I 2 rfl rfl 15 (by decide) rfl (hts _ q1_171) (kn_dec tX8_seeker 32 rfl) rfl ?_
            refine lv_iload_n hx hb (kn_dec tX8_seeker 33 rfl) rfl (lv_at hl 1 rfl) ?_
            obtain ⟨hs11, h⟩ := h
            refine kw_iald hx hb hK I 2 rfl 15 4 (List.mem_of_getElem? (i := 7) rfl) hs11 (kn_dec tX8_seeker 34 rfl) ?_
            exact kw_iret hx hb hr hlocks I () rfl h (kn_dec tX8_seeker 35 rfl)
          · have h := h.2 c10
            rcases Classical.em (a2 = (4 : Int32)) with c12 | c12
            · have h := h.1 c12
              refine lv_tableIn (off := 96) (tgt := 108) hx hb (kn_dec tX8_seeker 7 rfl) (by rw [c12]; decide) (by rw [c12]; decide) (by rw [c12]; rfl) (by decide) ?_
              refine lv_aload_n hx hb (kn_dec tX8_seeker 36 rfl) rfl (lv_at hl 0 rfl) ?_
              refine kw_getl hx hb hts inX8 hown hK I 0 rfl rfl 6 (by decide) rfl (hts _ q2_105) (kn_dec tX8_seeker 37 rfl) e_t_6 ?_
              refine kw_getl hx hb hts inX5 hown hK I 1 rfl rfl 3 (by decide) rfl (hts _ q2_34) (kn_dec tX8_seeker 38 rfl) e_c_3 ?_
              refine kw_getl hx hb hts inX6 hown hK I 3 rfl rfl 6 (by decide) rfl (hts _ q2_0) (kn_dec tX8_seeker 39 rfl) rfl ?_
              refine lv_iload_n hx hb (kn_dec tX8_seeker 40 rfl) rfl (lv_at hl 1 rfl) ?_
              obtain ⟨hs13, h⟩ := h
              refine kw_iald hx hb hK I 3 rfl 6 4 (List.mem_of_getElem? (i := 3) rfl) hs13 (kn_dec tX8_seeker 41 rfl) ?_
              exact kw_iret hx hb hr hlocks I () rfl h (kn_dec tX8_seeker 42 rfl)
            · have h := h.2 c12
              rcases Classical.em (a2 = (5 : Int32)) with c14 | c14
              · have h := h.1 c14
                refine lv_tableIn (off := 109) (tgt := 121) hx hb (kn_dec tX8_seeker 7 rfl) (by rw [c14]; decide) (by rw [c14]; decide) (by rw [c14]; rfl) (by decide) ?_
                refine lv_aload_n hx hb (kn_dec tX8_seeker 43 rfl) rfl (lv_at hl 0 rfl) ?_
                refine kw_getl hx hb hts inX8 hown hK I 0 rfl rfl 6 (by decide) rfl (hts _ q2_105) (kn_dec tX8_seeker 44 rfl) e_t_6 ?_
                refine kw_getl hx hb hts inX5 hown hK I 1 rfl rfl 3 (by decide) rfl (hts _ q2_34) (kn_dec tX8_seeker 45 rfl) e_c_3 ?_
                refine kw_getl hx hb hts inX6 hown hK I 3 rfl rfl 7 (by decide) rfl (hts _ q2_3) (kn_dec tX8_seeker 46 rfl) rfl ?_
                refine lv_iload_n hx hb (kn_dec tX8_seeker 47 rfl) rfl (lv_at hl 1 rfl) ?_
                obtain ⟨hs15, h⟩ := h
                refine kw_iald hx hb hK I 3 rfl 7 4 (List.mem_of_getElem? (i := 4) rfl) hs15 (kn_dec tX8_seeker 48 rfl) ?_
                exact kw_iret hx hb hr hlocks I () rfl h (kn_dec tX8_seeker 49 rfl)
              · have h := h.2 c14
                rcases Classical.em (a2 = (6 : Int32)) with c16 | c16
                · have h := h.1 c16
                  refine lv_tableIn (off := 122) (tgt := 134) hx hb (kn_dec tX8_seeker 7 rfl) (by rw [c16]; decide) (by rw [c16]; decide) (by rw [c16]; rfl) (by decide) ?_
                  refine lv_aload_n hx hb (kn_dec tX8_seeker 50 rfl) rfl (lv_at hl 0 rfl) ?_
                  refine kw_getl hx hb hts inX8 hown hK I 0 rfl rfl 6 (by decide) rfl (hts _ q2_105) (kn_dec tX8_seeker 51 rfl) e_t_6 ?_
                  refine kw_getl hx hb hts inX5 hown hK I 1 rfl rfl 3 (by decide) rfl (hts _ q2_34) (kn_dec tX8_seeker 52 rfl) e_c_3 ?_
                  refine kw_getl hx hb hts inX6 hown hK I 3 rfl rfl 8 (by decide) rfl (hts _ q2_6) (kn_dec tX8_seeker 53 rfl) rfl ?_
                  refine lv_iload_n hx hb (kn_dec tX8_seeker 54 rfl) rfl (lv_at hl 1 rfl) ?_
                  obtain ⟨hs17, h⟩ := h
                  refine kw_iald hx hb hK I 3 rfl 8 4 (List.mem_of_getElem? (i := 5) rfl) hs17 (kn_dec tX8_seeker 55 rfl) ?_
                  exact kw_iret hx hb hr hlocks I () rfl h (kn_dec tX8_seeker 56 rfl)
                · have h := h.2 c16
                  refine lv_tableOut (tgt := 147) hx hb (kn_dec tX8_seeker 7 rfl) (by have z0 := kn_nei (k := 0) c4 (by decide); have z1 := kn_nei (k := 1) c6 (by decide); have z2 := kn_nei (k := 2) c8 (by decide); have z3 := kn_nei (k := 3) c10 (by decide); have z4 := kn_nei (k := 4) c12 (by decide); have z5 := kn_nei (k := 5) c14 (by decide); have z6 := kn_nei (k := 6) c16 (by decide); omega) (by decide) ?_
                  refine lv_bipush (v := (-2)) hx hb (kn_dec tX8_seeker 57 rfl) (by decide) ?_
                  exact kw_iret hx hb hr hlocks I () rfl h (kn_dec tX8_seeker 58 rfl)
  · have h := h.2 c3
    refine lv_bipush (v := (-2)) hx hb (kn_dec tX8_seeker 4 rfl) (by decide) ?_
    exact kw_iret hx hb hr hlocks I () rfl h (kn_dec tX8_seeker 5 rfl)

/-! X8_thing -/
abbrev rmX8_thing : Room := { frames := 0, cells := 0, slots := 0, locals := 0 }
def PX8_thing  (v_t : OV) (v_c : OV) (v_h : OV) (v_s : OV) (a1 : Int32) (post : Int32 → Prop) : Prop := ((a1 < ((0 : Int32)) → post ((-1 : Int32))) ∧ (¬ a1 < ((0 : Int32)) → (((v_h.1 9) ≤ a1 → post ((-1 : Int32))) ∧ (¬ (v_h.1 9) ≤ a1 → (vp_in a1 6 ∧ post (v_s.2.1 4 a1.toNatClampNeg))))))
set_option maxRecDepth 100000 in
set_option maxHeartbeats 1000000 in
theorem ctX8_thing {l : Launch} {D : va_G} {tc : Nat → ClassId} {Z : (Nat → Nat) × (Nat → Nat)}  {ad_t : Nat → Nat} {ad_c : Nat → Nat} {ad_h : Nat → Nat} {ad_s : Nat → Nat} {v_t : OV} {v_c : OV} {v_h : OV} {v_s : OV} {a1 : Int32} (e_t_6 : ad_t (6 + 1) = ad_c 0) (e_c_0 : ad_c (0 + 1) = ad_h 0) (e_c_3 : ad_c (3 + 1) = ad_s 0)   {post : Int32 → Prop} (h : PX8_thing  v_t v_c v_h v_s a1 post) : CTi l D tc Z yX8_thing (Cond.code yX8_thing cX8_thing 2 (some .int) :: kn_all) rmX8_thing 0 0 [.ref (ad_t 0), .int a1] [(kTin, ad_t, v_t), (kScene, ad_c, v_c), (kHill, ad_h, v_h), (kState, ad_s, v_s)] (fun (u : Unit) => [(kTin, ad_t, v_t), (kScene, ad_c, v_c), (kHill, ad_h, v_h), (kState, ad_s, v_s)]) (fun (r : Int32) (u : Unit) => post r) := by
  refine kn_ofi (cc := cX8_thing) (nL := 2) (ret := (some .int)) (lv := [(0, .ref (ad_t 0)), (1, .int a1)]) (by decide) (Nat.le_of_ble_eq_true rfl) rfl (fun p e s m below meth c ls X I hl _ => ?_)
  obtain ⟨S0, hr, hlocks, hK, hZ, hA⟩ := id X
  obtain ⟨hx, hb, hml, hown, hts⟩ := id S0
  unfold PX8_thing at h
  refine lv_iload_n hx hb (kn_dec tX8_thing 0 rfl) rfl (lv_at hl 1 rfl) ?_
  refine lv_if_lt (tgt := 33) hx hb (kn_dec tX8_thing 1 rfl) (by decide) (fun c1 => ?_) (fun c1 => ?_)
  · have h := h.1 c1
    refine lv_iconst (v := (-1)) hx hb (kn_dec tX8_thing 15 rfl) (by decide) ?_
    exact kw_iret hx hb hr hlocks I () rfl h (kn_dec tX8_thing 16 rfl)
  · have h := h.2 c1
    refine lv_iload_n hx hb (kn_dec tX8_thing 2 rfl) rfl (lv_at hl 1 rfl) ?_
    refine lv_aload_n hx hb (kn_dec tX8_thing 3 rfl) rfl (lv_at hl 0 rfl) ?_
    refine kw_getl hx hb hts inX8 hown hK I 0 rfl rfl 6 (by decide) rfl (hts _ q2_105) (kn_dec tX8_thing 4 rfl) e_t_6 ?_
    refine kw_getl hx hb hts inX5 hown hK I 1 rfl rfl 0 (by decide) rfl (hts _ q2_28) (kn_dec tX8_thing 5 rfl) e_c_0 ?_
    refine kw_geti hx hb hts inX0 hown hK I 2 rfl rfl 9 (by decide) rfl (hts _ q1_150) (kn_dec tX8_thing 6 rfl) ?_
    refine lv_icmp_ge (tgt := 33) hx hb (kn_dec tX8_thing 7 rfl) (by decide) (fun c2 => ?_) (fun c2 => ?_)
    · have h := h.1 c2
      refine lv_iconst (v := (-1)) hx hb (kn_dec tX8_thing 15 rfl) (by decide) ?_
      exact kw_iret hx hb hr hlocks I () rfl h (kn_dec tX8_thing 16 rfl)
    · have h := h.2 c2
      refine lv_aload_n hx hb (kn_dec tX8_thing 8 rfl) rfl (lv_at hl 0 rfl) ?_
      refine kw_getl hx hb hts inX8 hown hK I 0 rfl rfl 6 (by decide) rfl (hts _ q2_105) (kn_dec tX8_thing 9 rfl) e_t_6 ?_
      refine kw_getl hx hb hts inX5 hown hK I 1 rfl rfl 3 (by decide) rfl (hts _ q2_34) (kn_dec tX8_thing 10 rfl) e_c_3 ?_
      refine kw_getl hx hb hts inX6 hown hK I 3 rfl rfl 4 (by decide) rfl (hts _ q1_234) (kn_dec tX8_thing 11 rfl) rfl ?_
      refine lv_iload_n hx hb (kn_dec tX8_thing 12 rfl) rfl (lv_at hl 1 rfl) ?_
      obtain ⟨hs3, h⟩ := h
      refine kw_iald hx hb hK I 3 rfl 4 6 (List.mem_of_getElem? (i := 1) rfl) hs3 (kn_dec tX8_thing 13 rfl) ?_
      refine lv_goto (tgt := 34) hx hb (kn_dec tX8_thing 14 rfl) (by decide) ?_
      exact kw_iret hx hb hr hlocks I () rfl h (kn_dec tX8_thing 16 rfl)

/-! X8_isBetter -/
abbrev rmX8_isBetter : Room := { frames := 2, cells := 0, slots := 0, locals := 87 }
def PX8_isBetter  (v_t : OV) (v_c : OV) (v_h : OV) (v_s : OV) (a1 : Int32) (a2 : Int32) (a3 : Int32) (post : Int32 → Prop) : Prop := (vp_in a2 10 ∧ (PX0_minutes v_h v_s a1 a3 (fun r2 => (∀ x4 : Int32, x4 = ((v_h.2.1 7 a2.toNatClampNeg) * r2) → (vp_in a3 10 ∧ (PX0_minutes v_h v_s a1 a2 (fun r6 => (∀ x8 : Int32, x8 = ((v_h.2.1 7 a3.toNatClampNeg) * r6) → ((x4 ≤ x8 → post ((0 : Int32))) ∧ (¬ x4 ≤ x8 → post ((1 : Int32))))))))))))
set_option maxRecDepth 100000 in
set_option maxHeartbeats 1000000 in
theorem ctX8_isBetter {l : Launch} {D : va_G} {tc : Nat → ClassId} {Z : (Nat → Nat) × (Nat → Nat)}  {ad_t : Nat → Nat} {ad_c : Nat → Nat} {ad_h : Nat → Nat} {ad_s : Nat → Nat} {v_t : OV} {v_c : OV} {v_h : OV} {v_s : OV} {a1 : Int32} {a2 : Int32} {a3 : Int32} (e_t_6 : ad_t (6 + 1) = ad_c 0) (e_c_0 : ad_c (0 + 1) = ad_h 0) (e_c_3 : ad_c (3 + 1) = ad_s 0)   {post : Int32 → Prop} (h : PX8_isBetter  v_t v_c v_h v_s a1 a2 a3 post) : CTi l D tc Z yX8_isBetter (Cond.code yX8_isBetter cX8_isBetter 6 (some .boolean) :: kn_all) rmX8_isBetter 0 0 [.ref (ad_t 0), .int a1, .int a2, .int a3] [(kTin, ad_t, v_t), (kScene, ad_c, v_c), (kHill, ad_h, v_h), (kState, ad_s, v_s)] (fun (u : Unit) => [(kTin, ad_t, v_t), (kScene, ad_c, v_c), (kHill, ad_h, v_h), (kState, ad_s, v_s)]) (fun (r : Int32) (u : Unit) => (r = 0 ∨ r = 1) ∧ post r) := by
  refine kn_ofi (cc := cX8_isBetter) (nL := 6) (ret := (some .boolean)) (lv := [(0, .ref (ad_t 0)), (1, .int a1), (2, .int a2), (3, .int a3)]) (by decide) (Nat.le_of_ble_eq_true rfl) rfl (fun p e s m below meth c ls X I hl _ => ?_)
  obtain ⟨S0, hr, hlocks, hK, hZ, hA⟩ := id X
  obtain ⟨hx, hb, hml, hown, hts⟩ := id S0
  unfold PX8_isBetter at h
  refine lv_aload_n hx hb (kn_dec tX8_isBetter 0 rfl) rfl (lv_at hl 0 rfl) ?_
  refine kw_getl hx hb hts inX8 hown hK I 0 rfl rfl 6 (by decide) rfl (hts _ q2_105) (kn_dec tX8_isBetter 1 rfl) e_t_6 ?_
  refine kw_getl hx hb hts inX5 hown hK I 1 rfl rfl 0 (by decide) rfl (hts _ q2_28) (kn_dec tX8_isBetter 2 rfl) e_c_0 ?_
  refine kw_getl hx hb hts inX0 hown hK I 2 rfl rfl 7 (by decide) rfl (hts _ q1_144) (kn_dec tX8_isBetter 3 rfl) rfl ?_
  refine lv_iload_n hx hb (kn_dec tX8_isBetter 4 rfl) rfl (lv_at hl 2 rfl) ?_
  obtain ⟨hs1, h⟩ := h
  refine kw_iald hx hb hK I 2 rfl 7 10 (List.mem_of_getElem? (i := 2) rfl) hs1 (kn_dec tX8_isBetter 5 rfl) ?_
  refine lv_aload_n hx hb (kn_dec tX8_isBetter 6 rfl) rfl (lv_at hl 0 rfl) ?_
  refine kw_getl hx hb hts inX8 hown hK I 0 rfl rfl 6 (by decide) rfl (hts _ q2_105) (kn_dec tX8_isBetter 7 rfl) e_t_6 ?_
  refine kw_getl hx hb hts inX5 hown hK I 1 rfl rfl 0 (by decide) rfl (hts _ q2_28) (kn_dec tX8_isBetter 8 rfl) e_c_0 ?_
  refine lv_aload_n hx hb (kn_dec tX8_isBetter 9 rfl) rfl (lv_at hl 0 rfl) ?_
  refine kw_getl hx hb hts inX8 hown hK I 0 rfl rfl 6 (by decide) rfl (hts _ q2_105) (kn_dec tX8_isBetter 10 rfl) e_t_6 ?_
  refine kw_getl hx hb hts inX5 hown hK I 1 rfl rfl 3 (by decide) rfl (hts _ q2_34) (kn_dec tX8_isBetter 11 rfl) e_c_3 ?_
  refine lv_iload_n hx hb (kn_dec tX8_isBetter 12 rfl) rfl (lv_at hl 1 rfl) ?_
  refine lv_iload_n hx hb (kn_dec tX8_isBetter 13 rfl) rfl (lv_at hl 3 rfl) ?_
  refine kw_calli (wc := [(kHill, ad_h, _), (kState, ad_s, _)]) (wr := [(kTin, ad_t, _), (kScene, ad_c, _)]) I hA [2, 3] [0, 1] rfl rfl (by decide) (by decide) (kn_runV (As := [.ref (ad_s 0), .int _, .int _]) S0 hK hZ hA I ((ctX0_minutes h).met _) (kn_cwV 3 hts q4_106 q3_217 q3_218 q1_7 q3_219 rfl rfl (by decide +kernel) ⟨(Nat.le_of_ble_eq_true rfl), (Nat.le_of_ble_eq_true rfl)⟩) [2, 3] rfl (by decide) 2 rfl rfl rfl rfl hl.1 rfl (Nat.le_of_ble_eq_true rfl) (kn_dec tX8_isBetter 14 rfl) ⟨(Nat.le_of_ble_eq_true rfl), (Nat.le_of_ble_eq_true rfl)⟩) (fun r2 u3 H locs h I => ?_)
  have I : kn_I D tc (kn_A _ s.heap.size) s.heap [(kTin, ad_t, _), (kScene, ad_c, _), (kHill, ad_h, _), (kState, ad_s, _)] _ _ := I
  refine lv_imul hx hb (kn_dec tX8_isBetter 15 rfl) ?_
  refine lv_topi (fun x4 ex4 => ?_)
  have h := h x4 ex4
  refine lv_istore (lv' := [(4, .int _), (0, .ref (ad_t 0)), (1, .int _), (2, .int _), (3, .int _)]) hx hb (kn_dec tX8_isBetter 16 rfl) hl (by decide) rfl (fun ls hl => ?_)
  refine lv_aload_n hx hb (kn_dec tX8_isBetter 17 rfl) rfl (lv_at hl 1 rfl) ?_
  refine kw_getl hx hb hts inX8 hown hK I 0 rfl rfl 6 (by decide) rfl (hts _ q2_105) (kn_dec tX8_isBetter 18 rfl) e_t_6 ?_
  refine kw_getl hx hb hts inX5 hown hK I 1 rfl rfl 0 (by decide) rfl (hts _ q2_28) (kn_dec tX8_isBetter 19 rfl) e_c_0 ?_
  refine kw_getl hx hb hts inX0 hown hK I 2 rfl rfl 7 (by decide) rfl (hts _ q1_144) (kn_dec tX8_isBetter 20 rfl) rfl ?_
  refine lv_iload_n hx hb (kn_dec tX8_isBetter 21 rfl) rfl (lv_at hl 4 rfl) ?_
  obtain ⟨hs5, h⟩ := h
  refine kw_iald hx hb hK I 2 rfl 7 10 (List.mem_of_getElem? (i := 2) rfl) hs5 (kn_dec tX8_isBetter 22 rfl) ?_
  refine lv_aload_n hx hb (kn_dec tX8_isBetter 23 rfl) rfl (lv_at hl 1 rfl) ?_
  refine kw_getl hx hb hts inX8 hown hK I 0 rfl rfl 6 (by decide) rfl (hts _ q2_105) (kn_dec tX8_isBetter 24 rfl) e_t_6 ?_
  refine kw_getl hx hb hts inX5 hown hK I 1 rfl rfl 0 (by decide) rfl (hts _ q2_28) (kn_dec tX8_isBetter 25 rfl) e_c_0 ?_
  refine lv_aload_n hx hb (kn_dec tX8_isBetter 26 rfl) rfl (lv_at hl 1 rfl) ?_
  refine kw_getl hx hb hts inX8 hown hK I 0 rfl rfl 6 (by decide) rfl (hts _ q2_105) (kn_dec tX8_isBetter 27 rfl) e_t_6 ?_
  refine kw_getl hx hb hts inX5 hown hK I 1 rfl rfl 3 (by decide) rfl (hts _ q2_34) (kn_dec tX8_isBetter 28 rfl) e_c_3 ?_
  refine lv_iload_n hx hb (kn_dec tX8_isBetter 29 rfl) rfl (lv_at hl 2 rfl) ?_
  refine lv_iload_n hx hb (kn_dec tX8_isBetter 30 rfl) rfl (lv_at hl 3 rfl) ?_
  refine kw_calli (wc := [(kHill, ad_h, _), (kState, ad_s, _)]) (wr := [(kTin, ad_t, _), (kScene, ad_c, _)]) I hA [2, 3] [0, 1] rfl rfl (by decide) (by decide) (kn_runV (As := [.ref (ad_s 0), .int _, .int _]) S0 hK hZ hA I ((ctX0_minutes h).met _) (kn_cwV 3 hts q4_106 q3_217 q3_218 q1_7 q3_219 rfl rfl (by decide +kernel) ⟨(Nat.le_of_ble_eq_true rfl), (Nat.le_of_ble_eq_true rfl)⟩) [2, 3] rfl (by decide) 2 rfl rfl rfl rfl hl.1 rfl (Nat.le_of_ble_eq_true rfl) (kn_dec tX8_isBetter 31 rfl) ⟨(Nat.le_of_ble_eq_true rfl), (Nat.le_of_ble_eq_true rfl)⟩) (fun r6 u7 H locs h I => ?_)
  have I : kn_I D tc (kn_A _ s.heap.size) s.heap [(kTin, ad_t, _), (kScene, ad_c, _), (kHill, ad_h, _), (kState, ad_s, _)] _ _ := I
  refine lv_imul hx hb (kn_dec tX8_isBetter 32 rfl) ?_
  refine lv_topi (fun x8 ex8 => ?_)
  have h := h x8 ex8
  refine lv_istore (lv' := [(5, .int _), (4, .int _), (0, .ref (ad_t 0)), (1, .int _), (2, .int _), (3, .int _)]) hx hb (kn_dec tX8_isBetter 33 rfl) hl (by decide) rfl (fun ls hl => ?_)
  refine lv_iload hx hb (kn_dec tX8_isBetter 34 rfl) (lv_at hl 1 rfl) ?_
  refine lv_iload hx hb (kn_dec tX8_isBetter 35 rfl) (lv_at hl 0 rfl) ?_
  refine lv_icmp_le (tgt := 79) hx hb (kn_dec tX8_isBetter 36 rfl) (by decide) (fun c9 => ?_) (fun c9 => ?_)
  · have h := h.1 c9
    refine lv_iconst (v := (0)) hx hb (kn_dec tX8_isBetter 39 rfl) (by decide) ?_
    exact kw_zret hx hb hr (kn_nz (Or.inl rfl)) hlocks I () rfl ⟨(Or.inl rfl), h⟩ (kn_dec tX8_isBetter 40 rfl)
  · have h := h.2 c9
    refine lv_iconst (v := (1)) hx hb (kn_dec tX8_isBetter 37 rfl) (by decide) ?_
    refine lv_goto (tgt := 80) hx hb (kn_dec tX8_isBetter 38 rfl) (by decide) ?_
    exact kw_zret hx hb hr (kn_nz (Or.inr rfl)) hlocks I () rfl ⟨(Or.inr rfl), h⟩ (kn_dec tX8_isBetter 40 rfl)

/-! X8_putInOrder -/
abbrev rmX8_putInOrder : Room := { frames := 3, cells := 0, slots := 0, locals := 112 }
def PX8_putInOrder_b81 (v_c : OV) (v_h : OV) (v_s : OV) (K4 : Int32 → Int32 → Int32 → OV → Prop) (post : Int32 → OV → Prop) (y1 : Int32) (y2 : Int32) (y3 : Int32) (y4 : Int32) (v_t : OV) : Prop := (vp_in y4 10 ∧ (∀ v_t2 : OV, v_t2 = sa v_t 11 (upd (v_t.2.1 11) y4.toNatClampNeg y3) → (∀ x3 : Int32, x3 = y2 + (1 : Int32) → (∀ x4 : Int32, x4 = y3 + (1 : Int32) → K4 y1 x3 x4 v_t2))))
set_option maxRecDepth 100000 in
set_option maxHeartbeats 1000000 in
theorem wX8_putInOrder_b81 {v_c : OV} {v_h : OV} {v_s : OV} {K4 : Int32 → Int32 → Int32 → OV → Prop} {post : Int32 → OV → Prop} {ad_t : Nat → Nat} {ad_c : Nat → Nat} {ad_h : Nat → Nat} {ad_s : Nat → Nat} (X : kn_X p s m args meth c cX8_putInOrder 5 (some .int) RX8 kn_all D tc Z (kn_A w0 s.heap.size)) (e_t_6 : ad_t (6 + 1) = ad_c 0) (e_c_0 : ad_c (0 + 1) = ad_h 0) (e_c_3 : ad_c (3 + 1) = ad_s 0)  (hK4 : ∀ (H : Heap) (locs : List Loc) (ls : Array Slot) (y1 : Int32) (y2 : Int32) (y3 : Int32) (v_t : OV), kn_I D tc (kn_A w0 s.heap.size) s.heap [(kTin, ad_t, v_t), (kScene, ad_c, v_c), (kHill, ad_h, v_h), (kState, ad_s, v_s)] H locs → lv_has ls 5 [(0, .ref (ad_t 0)), (1, .int y1), (2, .int y2), (3, .int y3)] → K4 y1 y2 y3 v_t → W p l e rmX8_putInOrder s m args below meth c H locs 0 0 (kn_Qi D tc w0 (fun (u : OV) => [(kTin, ad_t, u), (kScene, ad_c, v_c), (kHill, ad_h, v_h), (kState, ad_s, v_s)]) (fun (r : Int32) (u : OV) => post r u) below args s 0 0) (F0 m 4 ls [])) : ∀ (H : Heap) (locs : List Loc) (ls : Array Slot) (y1 : Int32) (y2 : Int32) (y3 : Int32) (y4 : Int32) (v_t : OV), kn_I D tc (kn_A w0 s.heap.size) s.heap [(kTin, ad_t, v_t), (kScene, ad_c, v_c), (kHill, ad_h, v_h), (kState, ad_s, v_s)] H locs → lv_has ls 5 [(0, .ref (ad_t 0)), (1, .int y1), (2, .int y2), (3, .int y3), (4, .int y4)] → PX8_putInOrder_b81 v_c v_h v_s K4 post y1 y2 y3 y4 v_t → W p l e rmX8_putInOrder s m args below meth c H locs 0 0 (kn_Qi D tc w0 (fun (u : OV) => [(kTin, ad_t, u), (kScene, ad_c, v_c), (kHill, ad_h, v_h), (kState, ad_s, v_s)]) (fun (r : Int32) (u : OV) => post r u) below args s 0 0) (F0 m 81 ls []) := by
  obtain ⟨S0, hr, hlocks, hK, hZ, hA⟩ := id X
  obtain ⟨hx, hb, hml, hown, hts⟩ := id S0
  intro H locs ls y1 y2 y3 y4 v_t I hl h
  unfold PX8_putInOrder_b81 at h
  refine lv_aload_n hx hb (kn_dec tX8_putInOrder 44 rfl) rfl (lv_at hl 0 rfl) ?_
  refine kw_getl hx hb hts inX8 hown hK I 0 rfl rfl 11 (by decide) rfl (hts _ q2_110) (kn_dec tX8_putInOrder 45 rfl) rfl ?_
  refine lv_iload hx hb (kn_dec tX8_putInOrder 46 rfl) (lv_at hl 4 rfl) ?_
  refine lv_iload_n hx hb (kn_dec tX8_putInOrder 47 rfl) rfl (lv_at hl 3 rfl) ?_
  obtain ⟨hs1, h⟩ := h
  refine kw_iast hx hb hK I 0 rfl 11 10 (List.mem_of_getElem? (i := 4) rfl) ukTin_11 hs1 (kn_dec tX8_putInOrder 48 rfl) (fun v_t2 ev_t2 H locs I => ?_)
  have h := h v_t2 ev_t2
  have I : kn_I D tc (kn_A w0 s.heap.size) s.heap [(kTin, ad_t, _), (kScene, ad_c, _), (kHill, ad_h, _), (kState, ad_s, _)] _ _ := I
  refine kw_iinc (lvf := fun y => [(2, .int y), (0, .ref (ad_t 0)), (1, .int _), (3, .int _), (4, .int _)]) (nv := (1)) hx hb (kn_dec tX8_putInOrder 49 rfl) hl (k := 2) rfl (by decide) (by decide) (fun _ => rfl) (fun x3 ex3 ls hl => ?_)
  have h := h x3 ex3
  refine kw_iinc (lvf := fun y => [(3, .int y), (2, .int _), (0, .ref (ad_t 0)), (1, .int _), (4, .int _)]) (nv := (1)) hx hb (kn_dec tX8_putInOrder 50 rfl) hl (k := 3) rfl (by decide) (by decide) (fun _ => rfl) (fun x4 ex4 ls hl => ?_)
  have h := h x4 ex4
  refine lv_goto (tgt := 4) hx hb (kn_dec tX8_putInOrder 51 rfl) (by decide) ?_
  exact hK4 _ _ _ _ _ _ _  I (lv_sub hl [2, 3, 1, 0] rfl) h
def PX8_putInOrder_L36 (v_c : OV) (v_h : OV) (v_s : OV) (K4 : Int32 → Int32 → Int32 → OV → Prop) (post : Int32 → OV → Prop) : Nat → Int32 → Int32 → Int32 → Int32 → OV → Prop
  | 0, _, _, _, _, _ => False
  | n + 1, y1, y2, y3, y4, v_t => ((y4 ≤ ((0 : Int32)) → PX8_putInOrder_b81 v_c v_h v_s K4 post y1 y2 y3 y4 v_t) ∧ (¬ y4 ≤ ((0 : Int32)) → (vp_in (y4 - ((1 : Int32))) 10 ∧ (PX8_isBetter v_t v_c v_h v_s y1 y3 (v_t.2.1 11 (y4 - ((1 : Int32))).toNatClampNeg) (fun r3 => ((r3 = ((0 : Int32)) → PX8_putInOrder_b81 v_c v_h v_s K4 post y1 y2 y3 y4 v_t) ∧ (¬ r3 = ((0 : Int32)) → (vp_in (y4 - ((1 : Int32))) 10 ∧ (∀ x7 : Int32, x7 = (v_t.2.1 11 (y4 - ((1 : Int32))).toNatClampNeg) → (vp_in y4 10 ∧ (∀ v_t9 : OV, v_t9 = sa v_t 11 (upd (v_t.2.1 11) y4.toNatClampNeg x7) → (∀ x10 : Int32, x10 = y4 + (-1 : Int32) → PX8_putInOrder_L36 v_c v_h v_s K4 post n y1 y2 y3 x10 v_t9))))))))))))
set_option maxRecDepth 100000 in
set_option maxHeartbeats 1000000 in
theorem wX8_putInOrder_L36 {v_c : OV} {v_h : OV} {v_s : OV} {K4 : Int32 → Int32 → Int32 → OV → Prop} {post : Int32 → OV → Prop} {ad_t : Nat → Nat} {ad_c : Nat → Nat} {ad_h : Nat → Nat} {ad_s : Nat → Nat} (X : kn_X p s m args meth c cX8_putInOrder 5 (some .int) RX8 kn_all D tc Z (kn_A w0 s.heap.size)) (e_t_6 : ad_t (6 + 1) = ad_c 0) (e_c_0 : ad_c (0 + 1) = ad_h 0) (e_c_3 : ad_c (3 + 1) = ad_s 0)  (hK4 : ∀ (H : Heap) (locs : List Loc) (ls : Array Slot) (y1 : Int32) (y2 : Int32) (y3 : Int32) (v_t : OV), kn_I D tc (kn_A w0 s.heap.size) s.heap [(kTin, ad_t, v_t), (kScene, ad_c, v_c), (kHill, ad_h, v_h), (kState, ad_s, v_s)] H locs → lv_has ls 5 [(0, .ref (ad_t 0)), (1, .int y1), (2, .int y2), (3, .int y3)] → K4 y1 y2 y3 v_t → W p l e rmX8_putInOrder s m args below meth c H locs 0 0 (kn_Qi D tc w0 (fun (u : OV) => [(kTin, ad_t, u), (kScene, ad_c, v_c), (kHill, ad_h, v_h), (kState, ad_s, v_s)]) (fun (r : Int32) (u : OV) => post r u) below args s 0 0) (F0 m 4 ls [])) : ∀ n : Nat, ∀ (H : Heap) (locs : List Loc) (ls : Array Slot) (y1 : Int32) (y2 : Int32) (y3 : Int32) (y4 : Int32) (v_t : OV), kn_I D tc (kn_A w0 s.heap.size) s.heap [(kTin, ad_t, v_t), (kScene, ad_c, v_c), (kHill, ad_h, v_h), (kState, ad_s, v_s)] H locs → lv_has ls 5 [(0, .ref (ad_t 0)), (1, .int y1), (2, .int y2), (3, .int y3), (4, .int y4)] → PX8_putInOrder_L36 v_c v_h v_s K4 post n y1 y2 y3 y4 v_t → W p l e rmX8_putInOrder s m args below meth c H locs 0 0 (kn_Qi D tc w0 (fun (u : OV) => [(kTin, ad_t, u), (kScene, ad_c, v_c), (kHill, ad_h, v_h), (kState, ad_s, v_s)]) (fun (r : Int32) (u : OV) => post r u) below args s 0 0) (F0 m 36 ls []) := by
  obtain ⟨S0, hr, hlocks, hK, hZ, hA⟩ := id X
  obtain ⟨hx, hb, hml, hown, hts⟩ := id S0
  intro n
  induction n with
  | zero =>
    intro H locs ls y1 y2 y3 y4 v_t I hl h
    unfold PX8_putInOrder_L36 at h
    exact h.elim
  | succ n ih =>
    intro H locs ls y1 y2 y3 y4 v_t I hl h
    unfold PX8_putInOrder_L36 at h
    refine lv_iload hx hb (kn_dec tX8_putInOrder 19 rfl) (lv_at hl 4 rfl) ?_
    refine lv_if_le (tgt := 81) hx hb (kn_dec tX8_putInOrder 20 rfl) (by decide) (fun c1 => ?_) (fun c1 => ?_)
    · have h := h.1 c1
      exact wX8_putInOrder_b81 X e_t_6 e_c_0 e_c_3 hK4 _ _ _ _ _ _ _ _  I (lv_sub hl [0, 1, 2, 3, 4] rfl) h
    · have h := h.2 c1
      refine lv_aload_n hx hb (kn_dec tX8_putInOrder 21 rfl) rfl (lv_at hl 0 rfl) ?_
      refine lv_iload_n hx hb (kn_dec tX8_putInOrder 22 rfl) rfl (lv_at hl 1 rfl) ?_
      refine lv_iload_n hx hb (kn_dec tX8_putInOrder 23 rfl) rfl (lv_at hl 3 rfl) ?_
      refine lv_aload_n hx hb (kn_dec tX8_putInOrder 24 rfl) rfl (lv_at hl 0 rfl) ?_
      refine kw_getl hx hb hts inX8 hown hK I 0 rfl rfl 11 (by decide) rfl (hts _ q2_110) (kn_dec tX8_putInOrder 25 rfl) rfl ?_
      refine lv_iload hx hb (kn_dec tX8_putInOrder 26 rfl) (lv_at hl 4 rfl) ?_
      refine lv_iconst (v := (1)) hx hb (kn_dec tX8_putInOrder 27 rfl) (by decide) ?_
      refine lv_isub hx hb (kn_dec tX8_putInOrder 28 rfl) ?_
      obtain ⟨hs2, h⟩ := h
      refine kw_iald hx hb hK I 0 rfl 11 10 (List.mem_of_getElem? (i := 4) rfl) hs2 (kn_dec tX8_putInOrder 29 rfl) ?_
      refine kw_calli (wc := [(kTin, ad_t, _), (kScene, ad_c, _), (kHill, ad_h, _), (kState, ad_s, _)]) (wr := []) I hA [0, 1, 2, 3] [] rfl rfl (by decide) (by decide) (kn_runV (As := [.int _, .int _, .int _]) S0 hK hZ hA I ((ctX8_isBetter e_t_6 e_c_0 e_c_3 h).met _) (kn_cwV 3 hts q4_102 q4_104 q0_24 q1_1 q4_105 rfl rfl (by decide +kernel) ⟨(Nat.le_of_ble_eq_true rfl), (Nat.le_of_ble_eq_true rfl)⟩) [0, 1, 2, 3] rfl (by decide) 0 rfl rfl rfl rfl hl.1 rfl (Nat.le_of_ble_eq_true rfl) (kn_dec tX8_putInOrder 30 rfl) ⟨(Nat.le_of_ble_eq_true rfl), (Nat.le_of_ble_eq_true rfl)⟩) (fun r3 u4 H locs h I => ?_)
      obtain ⟨hz_r3, h⟩ := h
      have I : kn_I D tc (kn_A w0 s.heap.size) s.heap [(kTin, ad_t, _), (kScene, ad_c, _), (kHill, ad_h, _), (kState, ad_s, _)] _ _ := I
      refine lv_if_eq (tgt := 81) hx hb (kn_dec tX8_putInOrder 31 rfl) (by decide) (fun c5 => ?_) (fun c5 => ?_)
      · have h := h.1 c5
        exact wX8_putInOrder_b81 X e_t_6 e_c_0 e_c_3 hK4 _ _ _ _ _ _ _ _  I (lv_sub hl [0, 1, 2, 3, 4] rfl) h
      · have h := h.2 c5
        refine lv_aload_n hx hb (kn_dec tX8_putInOrder 32 rfl) rfl (lv_at hl 0 rfl) ?_
        refine kw_getl hx hb hts inX8 hown hK I 0 rfl rfl 11 (by decide) rfl (hts _ q2_110) (kn_dec tX8_putInOrder 33 rfl) rfl ?_
        refine lv_iload hx hb (kn_dec tX8_putInOrder 34 rfl) (lv_at hl 4 rfl) ?_
        refine lv_aload_n hx hb (kn_dec tX8_putInOrder 35 rfl) rfl (lv_at hl 0 rfl) ?_
        refine kw_getl hx hb hts inX8 hown hK I 0 rfl rfl 11 (by decide) rfl (hts _ q2_110) (kn_dec tX8_putInOrder 36 rfl) rfl ?_
        refine lv_iload hx hb (kn_dec tX8_putInOrder 37 rfl) (lv_at hl 4 rfl) ?_
        refine lv_iconst (v := (1)) hx hb (kn_dec tX8_putInOrder 38 rfl) (by decide) ?_
        refine lv_isub hx hb (kn_dec tX8_putInOrder 39 rfl) ?_
        obtain ⟨hs6, h⟩ := h
        refine kw_iald hx hb hK I 0 rfl 11 10 (List.mem_of_getElem? (i := 4) rfl) hs6 (kn_dec tX8_putInOrder 40 rfl) ?_
        refine lv_topi (fun x7 ex7 => ?_)
        have h := h x7 ex7
        obtain ⟨hs8, h⟩ := h
        refine kw_iast hx hb hK I 0 rfl 11 10 (List.mem_of_getElem? (i := 4) rfl) ukTin_11 hs8 (kn_dec tX8_putInOrder 41 rfl) (fun v_t9 ev_t9 H locs I => ?_)
        have h := h v_t9 ev_t9
        have I : kn_I D tc (kn_A w0 s.heap.size) s.heap [(kTin, ad_t, _), (kScene, ad_c, _), (kHill, ad_h, _), (kState, ad_s, _)] _ _ := I
        refine kw_iinc (lvf := fun y => [(4, .int y), (0, .ref (ad_t 0)), (1, .int _), (2, .int _), (3, .int _)]) (nv := (-1)) hx hb (kn_dec tX8_putInOrder 42 rfl) hl (k := 4) rfl (by decide) (by decide) (fun _ => rfl) (fun x10 ex10 ls hl => ?_)
        have h := h x10 ex10
        refine lv_goto (tgt := 36) hx hb (kn_dec tX8_putInOrder 43 rfl) (by decide) ?_
        exact ih _ _ _ _ _ _ _ _  I (lv_sub hl [1, 2, 3, 4, 0] rfl) h
def PX8_putInOrder_L4 (v_c : OV) (v_h : OV) (v_s : OV)  (post : Int32 → OV → Prop) : Nat → Int32 → Int32 → Int32 → OV → Prop
  | 0, _, _, _, _ => False
  | n + 1, y1, y2, y3, v_t => (((v_h.1 4) ≤ y3 → post y2 v_t) ∧ (¬ (v_h.1 4) ≤ y3 → (vp_in y3 10 ∧ (((v_h.2.1 7 y3.toNatClampNeg) ≤ ((0 : Int32)) → (∀ x4 : Int32, x4 = y3 + (1 : Int32) → PX8_putInOrder_L4 v_c v_h v_s post n y1 y2 x4 v_t)) ∧ (¬ (v_h.2.1 7 y3.toNatClampNeg) ≤ ((0 : Int32)) → (∃ n5 : Nat, PX8_putInOrder_L36 v_c v_h v_s (PX8_putInOrder_L4 v_c v_h v_s post n) post n5 y1 y2 y3 y2 v_t))))))
set_option maxRecDepth 100000 in
set_option maxHeartbeats 1000000 in
theorem wX8_putInOrder_L4 {v_c : OV} {v_h : OV} {v_s : OV}  {post : Int32 → OV → Prop} {ad_t : Nat → Nat} {ad_c : Nat → Nat} {ad_h : Nat → Nat} {ad_s : Nat → Nat} (X : kn_X p s m args meth c cX8_putInOrder 5 (some .int) RX8 kn_all D tc Z (kn_A w0 s.heap.size)) (e_t_6 : ad_t (6 + 1) = ad_c 0) (e_c_0 : ad_c (0 + 1) = ad_h 0) (e_c_3 : ad_c (3 + 1) = ad_s 0)   : ∀ n : Nat, ∀ (H : Heap) (locs : List Loc) (ls : Array Slot) (y1 : Int32) (y2 : Int32) (y3 : Int32) (v_t : OV), kn_I D tc (kn_A w0 s.heap.size) s.heap [(kTin, ad_t, v_t), (kScene, ad_c, v_c), (kHill, ad_h, v_h), (kState, ad_s, v_s)] H locs → lv_has ls 5 [(0, .ref (ad_t 0)), (1, .int y1), (2, .int y2), (3, .int y3)] → PX8_putInOrder_L4 v_c v_h v_s post n y1 y2 y3 v_t → W p l e rmX8_putInOrder s m args below meth c H locs 0 0 (kn_Qi D tc w0 (fun (u : OV) => [(kTin, ad_t, u), (kScene, ad_c, v_c), (kHill, ad_h, v_h), (kState, ad_s, v_s)]) (fun (r : Int32) (u : OV) => post r u) below args s 0 0) (F0 m 4 ls []) := by
  obtain ⟨S0, hr, hlocks, hK, hZ, hA⟩ := id X
  obtain ⟨hx, hb, hml, hown, hts⟩ := id S0
  intro n
  induction n with
  | zero =>
    intro H locs ls y1 y2 y3 v_t I hl h
    unfold PX8_putInOrder_L4 at h
    exact h.elim
  | succ n ih =>
    intro H locs ls y1 y2 y3 v_t I hl h
    unfold PX8_putInOrder_L4 at h
    refine lv_iload_n hx hb (kn_dec tX8_putInOrder 4 rfl) rfl (lv_at hl 3 rfl) ?_
    refine lv_aload_n hx hb (kn_dec tX8_putInOrder 5 rfl) rfl (lv_at hl 0 rfl) ?_
    refine kw_getl hx hb hts inX8 hown hK I 0 rfl rfl 6 (by decide) rfl (hts _ q2_105) (kn_dec tX8_putInOrder 6 rfl) e_t_6 ?_
    refine kw_getl hx hb hts inX5 hown hK I 1 rfl rfl 0 (by decide) rfl (hts _ q2_28) (kn_dec tX8_putInOrder 7 rfl) e_c_0 ?_
    refine kw_geti hx hb hts inX0 hown hK I 2 rfl rfl 4 (by decide) rfl (hts _ q1_131) (kn_dec tX8_putInOrder 8 rfl) ?_
    refine lv_icmp_ge (tgt := 98) hx hb (kn_dec tX8_putInOrder 9 rfl) (by decide) (fun c1 => ?_) (fun c1 => ?_)
    · have h := h.1 c1
      refine lv_iload_n hx hb (kn_dec tX8_putInOrder 52 rfl) rfl (lv_at hl 2 rfl) ?_
      exact kw_iret hx hb hr hlocks I _ rfl h (kn_dec tX8_putInOrder 53 rfl)
    · have h := h.2 c1
      refine lv_aload_n hx hb (kn_dec tX8_putInOrder 10 rfl) rfl (lv_at hl 0 rfl) ?_
      refine kw_getl hx hb hts inX8 hown hK I 0 rfl rfl 6 (by decide) rfl (hts _ q2_105) (kn_dec tX8_putInOrder 11 rfl) e_t_6 ?_
      refine kw_getl hx hb hts inX5 hown hK I 1 rfl rfl 0 (by decide) rfl (hts _ q2_28) (kn_dec tX8_putInOrder 12 rfl) e_c_0 ?_
      refine kw_getl hx hb hts inX0 hown hK I 2 rfl rfl 7 (by decide) rfl (hts _ q1_144) (kn_dec tX8_putInOrder 13 rfl) rfl ?_
      refine lv_iload_n hx hb (kn_dec tX8_putInOrder 14 rfl) rfl (lv_at hl 3 rfl) ?_
      obtain ⟨hs2, h⟩ := h
      refine kw_iald hx hb hK I 2 rfl 7 10 (List.mem_of_getElem? (i := 2) rfl) hs2 (kn_dec tX8_putInOrder 15 rfl) ?_
      refine lv_if_le (tgt := 92) hx hb (kn_dec tX8_putInOrder 16 rfl) (by decide) (fun c3 => ?_) (fun c3 => ?_)
      · have h := h.1 c3
        refine kw_iinc (lvf := fun y => [(3, .int y), (0, .ref (ad_t 0)), (1, .int _), (2, .int _)]) (nv := (1)) hx hb (kn_dec tX8_putInOrder 50 rfl) hl (k := 3) rfl (by decide) (by decide) (fun _ => rfl) (fun x4 ex4 ls hl => ?_)
        have h := h x4 ex4
        refine lv_goto (tgt := 4) hx hb (kn_dec tX8_putInOrder 51 rfl) (by decide) ?_
        exact ih _ _ _ _ _ _ _  I (lv_sub hl [1, 2, 3, 0] rfl) h
      · have h := h.2 c3
        refine lv_iload_n hx hb (kn_dec tX8_putInOrder 17 rfl) rfl (lv_at hl 2 rfl) ?_
        refine lv_istore (lv' := [(4, .int _), (0, .ref (ad_t 0)), (1, .int _), (2, .int _), (3, .int _)]) hx hb (kn_dec tX8_putInOrder 18 rfl) hl (by decide) rfl (fun ls hl => ?_)
        obtain ⟨n5, h⟩ := h
        exact wX8_putInOrder_L36 X e_t_6 e_c_0 e_c_3 ih n5 _ _ _ _ _ _ _ _  I (lv_sub hl [1, 2, 3, 4, 0] rfl) h
def PX8_putInOrder  (v_t : OV) (v_c : OV) (v_h : OV) (v_s : OV) (a1 : Int32) (post : Int32 → OV → Prop) : Prop := (∃ n1 : Nat, PX8_putInOrder_L4 v_c v_h v_s post n1 a1 ((0 : Int32)) ((0 : Int32)) v_t)
set_option maxRecDepth 100000 in
set_option maxHeartbeats 1000000 in
theorem ctX8_putInOrder {l : Launch} {D : va_G} {tc : Nat → ClassId} {Z : (Nat → Nat) × (Nat → Nat)}  {ad_t : Nat → Nat} {ad_c : Nat → Nat} {ad_h : Nat → Nat} {ad_s : Nat → Nat} {v_t : OV} {v_c : OV} {v_h : OV} {v_s : OV} {a1 : Int32} (e_t_6 : ad_t (6 + 1) = ad_c 0) (e_c_0 : ad_c (0 + 1) = ad_h 0) (e_c_3 : ad_c (3 + 1) = ad_s 0)   {post : Int32 → OV → Prop} (h : PX8_putInOrder  v_t v_c v_h v_s a1 post) : CTi l D tc Z yX8_putInOrder (Cond.code yX8_putInOrder cX8_putInOrder 5 (some .int) :: kn_all) rmX8_putInOrder 0 0 [.ref (ad_t 0), .int a1] [(kTin, ad_t, v_t), (kScene, ad_c, v_c), (kHill, ad_h, v_h), (kState, ad_s, v_s)] (fun (u : OV) => [(kTin, ad_t, u), (kScene, ad_c, v_c), (kHill, ad_h, v_h), (kState, ad_s, v_s)]) (fun (r : Int32) (u : OV) => post r u) := by
  refine kn_ofi (cc := cX8_putInOrder) (nL := 5) (ret := (some .int)) (lv := [(0, .ref (ad_t 0)), (1, .int a1)]) (by decide) (Nat.le_of_ble_eq_true rfl) rfl (fun p e s m below meth c ls X I hl _ => ?_)
  obtain ⟨S0, hr, hlocks, hK, hZ, hA⟩ := id X
  obtain ⟨hx, hb, hml, hown, hts⟩ := id S0
  unfold PX8_putInOrder at h
  refine lv_iconst (v := (0)) hx hb (kn_dec tX8_putInOrder 0 rfl) (by decide) ?_
  refine lv_istore_n (lv' := [(2, .int _), (0, .ref (ad_t 0)), (1, .int _)]) hx hb (kn_dec tX8_putInOrder 1 rfl) rfl hl (by decide) rfl (fun ls hl => ?_)
  refine lv_iconst (v := (0)) hx hb (kn_dec tX8_putInOrder 2 rfl) (by decide) ?_
  refine lv_istore_n (lv' := [(3, .int _), (2, .int _), (0, .ref (ad_t 0)), (1, .int _)]) hx hb (kn_dec tX8_putInOrder 3 rfl) rfl hl (by decide) rfl (fun ls hl => ?_)
  obtain ⟨n1, h⟩ := h
  exact wX8_putInOrder_L4 X e_t_6 e_c_0 e_c_3 n1 _ _ _ _ _ _ _  I (lv_sub hl [2, 3, 1, 0] rfl) h

end
