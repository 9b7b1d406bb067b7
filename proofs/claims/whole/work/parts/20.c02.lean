section
variable {p : Program} {l : Launch} {e : Env} {s : State} {m : MethodId} {args : Array Value} {below : List Frame} {meth : Method} {c : Code} {D : va_G} {tc : Nat → ClassId} {Z : (Nat → Nat) × (Nat → Nat)} {w0 : List CH}

/-! X1_isFull -/
abbrev rmX1_isFull : Room := { frames := 0, cells := 0, slots := 0, locals := 0 }
def PX1_isFull  (v_h : OV) (a1 : Int32) (post : Int32 → Prop) : Prop := ((a1 = (0 : Int32) → post ((0 : Int32))) ∧ (¬ a1 = (0 : Int32) → ((a1 = (1 : Int32) → (((v_h.1 4) < ((10 : Int32)) → post ((0 : Int32))) ∧ (¬ (v_h.1 4) < ((10 : Int32)) → post ((1 : Int32))))) ∧ (¬ a1 = (1 : Int32) → ((a1 = (2 : Int32) → post ((0 : Int32))) ∧ (¬ a1 = (2 : Int32) → ((a1 = (3 : Int32) → (((v_h.1 9) < ((6 : Int32)) → post ((0 : Int32))) ∧ (¬ (v_h.1 9) < ((6 : Int32)) → post ((1 : Int32))))) ∧ (¬ a1 = (3 : Int32) → ((a1 = (4 : Int32) → (((v_h.1 11) < ((4 : Int32)) → post ((0 : Int32))) ∧ (¬ (v_h.1 11) < ((4 : Int32)) → post ((1 : Int32))))) ∧ (¬ a1 = (4 : Int32) → (((v_h.1 16) < ((8 : Int32)) → post ((0 : Int32))) ∧ (¬ (v_h.1 16) < ((8 : Int32)) → post ((1 : Int32))))))))))))))
set_option maxRecDepth 100000 in
set_option maxHeartbeats 1000000 in
theorem ctX1_isFull {l : Launch} {D : va_G} {tc : Nat → ClassId} {Z : (Nat → Nat) × (Nat → Nat)}  {ad_h : Nat → Nat} {v_h : OV} {a1 : Int32}    {post : Int32 → Prop} (h : PX1_isFull  v_h a1 post) : CTi l D tc Z yX1_isFull (Cond.code yX1_isFull cX1_isFull 2 (some .boolean) :: kn_all) rmX1_isFull 0 0 [.ref (ad_h 0), .int a1] [(kHill, ad_h, v_h)] (fun (u : Unit) => [(kHill, ad_h, v_h)]) (fun (r : Int32) (u : Unit) => (r = 0 ∨ r = 1) ∧ post r) := by
  refine kn_ofi (cc := cX1_isFull) (nL := 2) (ret := (some .boolean)) (lv := [(0, .ref (ad_h 0)), (1, .int a1)]) (by decide) (Nat.le_of_ble_eq_true rfl) rfl (fun p e s m below meth c ls X I hl _ => ?_)
  obtain ⟨S0, hr, hlocks, hK, hZ, hA⟩ := id X
  obtain ⟨hx, hb, hml, hown, hts⟩ := id S0
  unfold PX1_isFull at h
  refine lv_iload_n hx hb (kn_dec tX1_isFull 0 rfl) rfl (lv_at hl 1 rfl) ?_
  rcases Classical.em (a1 = (0 : Int32)) with c1 | c1
  · have h := h.1 c1
    refine lv_tableIn (off := 35) (tgt := 36) hx hb (kn_dec tX1_isFull 1 rfl) (by rw [c1]; decide) (by rw [c1]; decide) (by rw [c1]; rfl) (by decide) ?_
    refine lv_iconst (v := (0)) hx hb (kn_dec tX1_isFull 2 rfl) (by decide) ?_
    exact kw_zret hx hb hr (kn_nz (Or.inl rfl)) hlocks I () rfl ⟨(Or.inl rfl), h⟩ (kn_dec tX1_isFull 3 rfl)
  · have h := h.2 c1
    rcases Classical.em (a1 = (1 : Int32)) with c2 | c2
    · have h := h.1 c2
      refine lv_tableIn (off := 37) (tgt := 38) hx hb (kn_dec tX1_isFull 1 rfl) (by rw [c2]; decide) (by rw [c2]; decide) (by rw [c2]; rfl) (by decide) ?_
      refine lv_aload_n hx hb (kn_dec tX1_isFull 4 rfl) rfl (lv_at hl 0 rfl) ?_
      refine kw_geti hx hb hts inX0 hown hK I 0 rfl rfl 4 (by decide) rfl (hts _ q1_130) (kn_dec tX1_isFull 5 rfl) ?_
      refine lv_bipush (v := (10)) hx hb (kn_dec tX1_isFull 6 rfl) (by decide) ?_
      refine lv_icmp_lt (tgt := 51) hx hb (kn_dec tX1_isFull 7 rfl) (by decide) (fun c3 => ?_) (fun c3 => ?_)
      · have h := h.1 c3
        refine lv_iconst (v := (0)) hx hb (kn_dec tX1_isFull 10 rfl) (by decide) ?_
        exact kw_zret hx hb hr (kn_nz (Or.inl rfl)) hlocks I () rfl ⟨(Or.inl rfl), h⟩ (kn_dec tX1_isFull 11 rfl)
      · have h := h.2 c3
        refine lv_iconst (v := (1)) hx hb (kn_dec tX1_isFull 8 rfl) (by decide) ?_
        refine lv_goto (tgt := 52) hx hb (kn_dec tX1_isFull 9 rfl) (by decide) ?_
        exact kw_zret hx hb hr (kn_nz (Or.inr rfl)) hlocks I () rfl ⟨(Or.inr rfl), h⟩ (kn_dec tX1_isFull 11 rfl)
    · have h := h.2 c2
      rcases Classical.em (a1 = (2 : Int32)) with c4 | c4
      · have h := h.1 c4
        refine lv_tableIn (off := 35) (tgt := 36) hx hb (kn_dec tX1_isFull 1 rfl) (by rw [c4]; decide) (by rw [c4]; decide) (by rw [c4]; rfl) (by decide) ?_
        refine lv_iconst (v := (0)) hx hb (kn_dec tX1_isFull 2 rfl) (by decide) ?_
        exact kw_zret hx hb hr (kn_nz (Or.inl rfl)) hlocks I () rfl ⟨(Or.inl rfl), h⟩ (kn_dec tX1_isFull 3 rfl)
      · have h := h.2 c4
        rcases Classical.em (a1 = (3 : Int32)) with c5 | c5
        · have h := h.1 c5
          refine lv_tableIn (off := 52) (tgt := 53) hx hb (kn_dec tX1_isFull 1 rfl) (by rw [c5]; decide) (by rw [c5]; decide) (by rw [c5]; rfl) (by decide) ?_
          refine lv_aload_n hx hb (kn_dec tX1_isFull 12 rfl) rfl (lv_at hl 0 rfl) ?_
          refine kw_geti hx hb hts inX0 hown hK I 0 rfl rfl 9 (by decide) rfl (hts _ q1_148) (kn_dec tX1_isFull 13 rfl) ?_
          refine lv_bipush (v := (6)) hx hb (kn_dec tX1_isFull 14 rfl) (by decide) ?_
          refine lv_icmp_lt (tgt := 66) hx hb (kn_dec tX1_isFull 15 rfl) (by decide) (fun c6 => ?_) (fun c6 => ?_)
          · have h := h.1 c6
            refine lv_iconst (v := (0)) hx hb (kn_dec tX1_isFull 18 rfl) (by decide) ?_
            exact kw_zret hx hb hr (kn_nz (Or.inl rfl)) hlocks I () rfl ⟨(Or.inl rfl), h⟩ (kn_dec tX1_isFull 19 rfl)
          · have h := h.2 c6
            refine lv_iconst (v := (1)) hx hb (kn_dec tX1_isFull 16 rfl) (by decide) ?_
            refine lv_goto (tgt := 67) hx hb (kn_dec tX1_isFull 17 rfl) (by decide) ?_
            exact kw_zret hx hb hr (kn_nz (Or.inr rfl)) hlocks I () rfl ⟨(Or.inr rfl), h⟩ (kn_dec tX1_isFull 19 rfl)
        · have h := h.2 c5
          rcases Classical.em (a1 = (4 : Int32)) with c7 | c7
          · have h := h.1 c7
            refine lv_tableIn (off := 67) (tgt := 68) hx hb (kn_dec tX1_isFull 1 rfl) (by rw [c7]; decide) (by rw [c7]; decide) (by rw [c7]; rfl) (by decide) ?_
            refine lv_aload_n hx hb (kn_dec tX1_isFull 20 rfl) rfl (lv_at hl 0 rfl) ?_
            refine kw_geti hx hb hts inX0 hown hK I 0 rfl rfl 11 (by decide) rfl (hts _ q1_155) (kn_dec tX1_isFull 21 rfl) ?_
            refine lv_iconst (v := (4)) hx hb (kn_dec tX1_isFull 22 rfl) (by decide) ?_
            refine lv_icmp_lt (tgt := 80) hx hb (kn_dec tX1_isFull 23 rfl) (by decide) (fun c8 => ?_) (fun c8 => ?_)
            · have h := h.1 c8
              refine lv_iconst (v := (0)) hx hb (kn_dec tX1_isFull 26 rfl) (by decide) ?_
              exact kw_zret hx hb hr (kn_nz (Or.inl rfl)) hlocks I () rfl ⟨(Or.inl rfl), h⟩ (kn_dec tX1_isFull 27 rfl)
            · have h := h.2 c8
              refine lv_iconst (v := (1)) hx hb (kn_dec tX1_isFull 24 rfl) (by decide) ?_
              refine lv_goto (tgt := 81) hx hb (kn_dec tX1_isFull 25 rfl) (by decide) ?_
              exact kw_zret hx hb hr (kn_nz (Or.inr rfl)) hlocks I () rfl ⟨(Or.inr rfl), h⟩ (kn_dec tX1_isFull 27 rfl)
          · have h := h.2 c7
            refine lv_tableOut (tgt := 82) hx hb (kn_dec tX1_isFull 1 rfl) (by have z0 := kn_nei (k := 0) c1 (by decide); have z1 := kn_nei (k := 1) c2 (by decide); have z2 := kn_nei (k := 2) c4 (by decide); have z3 := kn_nei (k := 3) c5 (by decide); have z4 := kn_nei (k := 4) c7 (by decide); omega) (by decide) ?_
            refine lv_aload_n hx hb (kn_dec tX1_isFull 28 rfl) rfl (lv_at hl 0 rfl) ?_
            refine kw_geti hx hb hts inX0 hown hK I 0 rfl rfl 16 (by decide) rfl (hts _ q1_173) (kn_dec tX1_isFull 29 rfl) ?_
            refine lv_bipush (v := (8)) hx hb (kn_dec tX1_isFull 30 rfl) (by decide) ?_
            refine lv_icmp_lt (tgt := 95) hx hb (kn_dec tX1_isFull 31 rfl) (by decide) (fun c9 => ?_) (fun c9 => ?_)
            · have h := h.1 c9
              refine lv_iconst (v := (0)) hx hb (kn_dec tX1_isFull 34 rfl) (by decide) ?_
              exact kw_zret hx hb hr (kn_nz (Or.inl rfl)) hlocks I () rfl ⟨(Or.inl rfl), h⟩ (kn_dec tX1_isFull 35 rfl)
            · have h := h.2 c9
              refine lv_iconst (v := (1)) hx hb (kn_dec tX1_isFull 32 rfl) (by decide) ?_
              refine lv_goto (tgt := 96) hx hb (kn_dec tX1_isFull 33 rfl) (by decide) ?_
              exact kw_zret hx hb hr (kn_nz (Or.inr rfl)) hlocks I () rfl ⟨(Or.inr rfl), h⟩ (kn_dec tX1_isFull 35 rfl)

/-! X1_readSeeker -/
abbrev rmX1_readSeeker : Room := { frames := 2, cells := 0, slots := 0, locals := 46 }
def PX1_readSeeker  (v_g : OV) (v_r : OV) (v_t : OV) (v_h : OV) (a2 : Int32) (post : OV → OV → Prop) : Prop := (PX2_number v_r v_t ((0 : Int32)) ((9 : Int32)) (fun r2 v_r1 => (vp_in a2 4 ∧ (∀ v_h5 : OV, v_h5 = sa v_h 12 (upd (v_h.2.1 12) a2.toNatClampNeg r2) → (PX2_number v_r1 v_t ((1 : Int32)) ((99 : Int32)) (fun r7 v_r6 => (vp_in a2 4 ∧ (∀ v_h10 : OV, v_h10 = sa v_h5 13 (upd (v_h5.2.1 13) a2.toNatClampNeg r7) → (PX2_number v_r6 v_t ((0 : Int32)) ((99 : Int32)) (fun r12 v_r11 => (vp_in a2 4 ∧ (∀ v_h15 : OV, v_h15 = sa v_h10 14 (upd (v_h10.2.1 14) a2.toNatClampNeg r12) → (PX2_number v_r11 v_t ((0 : Int32)) ((2 : Int32)) (fun r17 v_r16 => (vp_in a2 4 ∧ (∀ v_h20 : OV, v_h20 = sa v_h15 15 (upd (v_h15.2.1 15) a2.toNatClampNeg r17) → post v_r16 v_h20))))))))))))))))
set_option maxRecDepth 100000 in
set_option maxHeartbeats 1000000 in
theorem ctX1_readSeeker {l : Launch} {D : va_G} {tc : Nat → ClassId} {Z : (Nat → Nat) × (Nat → Nat)}  {ad_g : Nat → Nat} {ad_r : Nat → Nat} {ad_t : Nat → Nat} {ad_h : Nat → Nat} {v_g : OV} {v_r : OV} {v_t : OV} {v_h : OV} {a2 : Int32} (e_r_0 : ad_r (0 + 1) = ad_t (0 + 1)) (e_g_0 : ad_g (0 + 1) = ad_r 0)   {post : OV → OV → Prop} (h : PX1_readSeeker  v_g v_r v_t v_h a2 post) : CTv l D tc Z yX1_readSeeker (Cond.code yX1_readSeeker cX1_readSeeker 3 none :: kn_all) rmX1_readSeeker 0 0 [.ref (ad_g 0), .ref (ad_h 0), .int a2] [(kHillReader, ad_g, v_g), (kReader, ad_r, v_r), (kTin, ad_t, v_t), (kHill, ad_h, v_h)] (fun (u : OV × OV) => [(kHillReader, ad_g, v_g), (kReader, ad_r, u.1), (kTin, ad_t, v_t), (kHill, ad_h, u.2)]) (fun (u : OV × OV) => post u.1 u.2) := by
  refine kn_ofv (cc := cX1_readSeeker) (nL := 3) (ret := none) (lv := [(0, .ref (ad_g 0)), (1, .ref (ad_h 0)), (2, .int a2)]) (by decide) (Nat.le_of_ble_eq_true rfl) rfl (fun p e s m below meth c ls X I hl _ => ?_)
  obtain ⟨S0, hr, hlocks, hK, hZ, hA⟩ := id X
  obtain ⟨hx, hb, hml, hown, hts⟩ := id S0
  unfold PX1_readSeeker at h
  refine lv_aload_n hx hb (kn_dec tX1_readSeeker 0 rfl) rfl (lv_at hl 1 rfl) ?_
  refine kw_getl hx hb hts inX0 hown hK I 3 rfl rfl 12 (by decide) rfl (hts _ q1_159) (kn_dec tX1_readSeeker 1 rfl) rfl ?_
  refine lv_iload_n hx hb (kn_dec tX1_readSeeker 2 rfl) rfl (lv_at hl 2 rfl) ?_
  refine lv_aload_n hx hb (kn_dec tX1_readSeeker 3 rfl) rfl (lv_at hl 0 rfl) ?_
  refine kw_getl hx hb hts inX1 hown hK I 0 rfl rfl 0 (by decide) rfl (hts _ q1_56) (kn_dec tX1_readSeeker 4 rfl) e_g_0 ?_
  refine lv_iconst (v := (0)) hx hb (kn_dec tX1_readSeeker 5 rfl) (by decide) ?_
  refine lv_bipush (v := (9)) hx hb (kn_dec tX1_readSeeker 6 rfl) (by decide) ?_
  refine kw_calli (wc := [(kReader, ad_r, _), (kTin, ad_t, _)]) (wr := [(kHillReader, ad_g, _), (kHill, ad_h, _)]) I hA [1, 2] [0, 3] rfl rfl (by decide) (by decide) (kn_runV (As := [.int _, .int _]) S0 hK hZ hA I ((ctX2_number e_r_0 h).met _) (kn_cwV 2 hts q3_10 q3_11 q3_12 q1_3 q3_13 rfl rfl (by decide +kernel) ⟨(Nat.le_of_ble_eq_true rfl), (Nat.le_of_ble_eq_true rfl)⟩) [1, 2] rfl (by decide) 1 rfl rfl rfl rfl hl.1 rfl (Nat.le_of_ble_eq_true rfl) (kn_dec tX1_readSeeker 7 rfl) ⟨(Nat.le_of_ble_eq_true rfl), (Nat.le_of_ble_eq_true rfl)⟩) (fun r2 u3 H locs h I => ?_)
  have I : kn_I D tc (kn_A _ s.heap.size) s.heap [(kHillReader, ad_g, _), (kReader, ad_r, _), (kTin, ad_t, _), (kHill, ad_h, _)] _ _ := I.sub [0, 2, 3, 1] (by decide) rfl
  obtain ⟨hs4, h⟩ := h
  refine kw_iast hx hb hK I 3 rfl 12 4 (List.mem_of_getElem? (i := 4) rfl) ukHill_12 hs4 (kn_dec tX1_readSeeker 8 rfl) (fun v_h5 ev_h5 H locs I => ?_)
  have h := h v_h5 ev_h5
  have I : kn_I D tc (kn_A _ s.heap.size) s.heap [(kHillReader, ad_g, _), (kReader, ad_r, _), (kTin, ad_t, _), (kHill, ad_h, _)] _ _ := I
  refine lv_aload_n hx hb (kn_dec tX1_readSeeker 9 rfl) rfl (lv_at hl 1 rfl) ?_
  refine kw_getl hx hb hts inX0 hown hK I 3 rfl rfl 13 (by decide) rfl (hts _ q1_163) (kn_dec tX1_readSeeker 10 rfl) rfl ?_
  refine lv_iload_n hx hb (kn_dec tX1_readSeeker 11 rfl) rfl (lv_at hl 2 rfl) ?_
  refine lv_aload_n hx hb (kn_dec tX1_readSeeker 12 rfl) rfl (lv_at hl 0 rfl) ?_
  refine kw_getl hx hb hts inX1 hown hK I 0 rfl rfl 0 (by decide) rfl (hts _ q1_56) (kn_dec tX1_readSeeker 13 rfl) e_g_0 ?_
  refine lv_iconst (v := (1)) hx hb (kn_dec tX1_readSeeker 14 rfl) (by decide) ?_
  refine lv_bipush (v := (99)) hx hb (kn_dec tX1_readSeeker 15 rfl) (by decide) ?_
  refine kw_calli (wc := [(kReader, ad_r, _), (kTin, ad_t, _)]) (wr := [(kHillReader, ad_g, _), (kHill, ad_h, _)]) I hA [1, 2] [0, 3] rfl rfl (by decide) (by decide) (kn_runV (As := [.int _, .int _]) S0 hK hZ hA I ((ctX2_number e_r_0 h).met _) (kn_cwV 2 hts q3_10 q3_11 q3_12 q1_3 q3_13 rfl rfl (by decide +kernel) ⟨(Nat.le_of_ble_eq_true rfl), (Nat.le_of_ble_eq_true rfl)⟩) [1, 2] rfl (by decide) 1 rfl rfl rfl rfl hl.1 rfl (Nat.le_of_ble_eq_true rfl) (kn_dec tX1_readSeeker 16 rfl) ⟨(Nat.le_of_ble_eq_true rfl), (Nat.le_of_ble_eq_true rfl)⟩) (fun r7 u8 H locs h I => ?_)
  have I : kn_I D tc (kn_A _ s.heap.size) s.heap [(kHillReader, ad_g, _), (kReader, ad_r, _), (kTin, ad_t, _), (kHill, ad_h, _)] _ _ := I.sub [0, 2, 3, 1] (by decide) rfl
  obtain ⟨hs9, h⟩ := h
  refine kw_iast hx hb hK I 3 rfl 13 4 (List.mem_of_getElem? (i := 5) rfl) ukHill_13 hs9 (kn_dec tX1_readSeeker 17 rfl) (fun v_h10 ev_h10 H locs I => ?_)
  have h := h v_h10 ev_h10
  have I : kn_I D tc (kn_A _ s.heap.size) s.heap [(kHillReader, ad_g, _), (kReader, ad_r, _), (kTin, ad_t, _), (kHill, ad_h, _)] _ _ := I
  refine lv_aload_n hx hb (kn_dec tX1_readSeeker 18 rfl) rfl (lv_at hl 1 rfl) ?_
  refine kw_getl hx hb hts inX0 hown hK I 3 rfl rfl 14 (by decide) rfl (hts _ q1_167) (kn_dec tX1_readSeeker 19 rfl) rfl ?_
  refine lv_iload_n hx hb (kn_dec tX1_readSeeker 20 rfl) rfl (lv_at hl 2 rfl) ?_
  refine lv_aload_n hx hb (kn_dec tX1_readSeeker 21 rfl) rfl (lv_at hl 0 rfl) ?_
  refine kw_getl hx hb hts inX1 hown hK I 0 rfl rfl 0 (by decide) rfl (hts _ q1_56) (kn_dec tX1_readSeeker 22 rfl) e_g_0 ?_
  refine lv_iconst (v := (0)) hx hb (kn_dec tX1_readSeeker 23 rfl) (by decide) ?_
  refine lv_bipush (v := (99)) hx hb (kn_dec tX1_readSeeker 24 rfl) (by decide) ?_
  refine kw_calli (wc := [(kReader, ad_r, _), (kTin, ad_t, _)]) (wr := [(kHillReader, ad_g, _), (kHill, ad_h, _)]) I hA [1, 2] [0, 3] rfl rfl (by decide) (by decide) (kn_runV (As := [.int _, .int _]) S0 hK hZ hA I ((ctX2_number e_r_0 h).met _) (kn_cwV 2 hts q3_10 q3_11 q3_12 q1_3 q3_13 rfl rfl (by decide +kernel) ⟨(Nat.le_of_ble_eq_true rfl), (Nat.le_of_ble_eq_true rfl)⟩) [1, 2] rfl (by decide) 1 rfl rfl rfl rfl hl.1 rfl (Nat.le_of_ble_eq_true rfl) (kn_dec tX1_readSeeker 25 rfl) ⟨(Nat.le_of_ble_eq_true rfl), (Nat.le_of_ble_eq_true rfl)⟩) (fun r12 u13 H locs h I => ?_)
  have I : kn_I D tc (kn_A _ s.heap.size) s.heap [(kHillReader, ad_g, _), (kReader, ad_r, _), (kTin, ad_t, _), (kHill, ad_h, _)] _ _ := I.sub [0, 2, 3, 1] (by decide) rfl
  obtain ⟨hs14, h⟩ := h
  refine kw_iast hx hb hK I 3 rfl 14 4 (List.mem_of_getElem? (i := 6) rfl) ukHill_14 hs14 (kn_dec tX1_readSeeker 26 rfl) (fun v_h15 ev_h15 H locs I => ?_)
  have h := h v_h15 ev_h15
  have I : kn_I D tc (kn_A _ s.heap.size) s.heap [(kHillReader, ad_g, _), (kReader, ad_r, _), (kTin, ad_t, _), (kHill, ad_h, _)] _ _ := I
  refine lv_aload_n hx hb (kn_dec tX1_readSeeker 27 rfl) rfl (lv_at hl 1 rfl) ?_
  refine kw_getl hx hb hts inX0 hown hK I 3 rfl rfl 15 (by decide) rfl (hts _ q1_170) (kn_dec tX1_readSeeker 28 rfl) rfl ?_
  refine lv_iload_n hx hb (kn_dec tX1_readSeeker 29 rfl) rfl (lv_at hl 2 rfl) ?_
  refine lv_aload_n hx hb (kn_dec tX1_readSeeker 30 rfl) rfl (lv_at hl 0 rfl) ?_
  refine kw_getl hx hb hts inX1 hown hK I 0 rfl rfl 0 (by decide) rfl (hts _ q1_56) (kn_dec tX1_readSeeker 31 rfl) e_g_0 ?_
  refine lv_iconst (v := (0)) hx hb (kn_dec tX1_readSeeker 32 rfl) (by decide) ?_
  refine lv_iconst (v := (2)) hx hb (kn_dec tX1_readSeeker 33 rfl) (by decide) ?_
  refine kw_calli (wc := [(kReader, ad_r, _), (kTin, ad_t, _)]) (wr := [(kHillReader, ad_g, _), (kHill, ad_h, _)]) I hA [1, 2] [0, 3] rfl rfl (by decide) (by decide) (kn_runV (As := [.int _, .int _]) S0 hK hZ hA I ((ctX2_number e_r_0 h).met _) (kn_cwV 2 hts q3_10 q3_11 q3_12 q1_3 q3_13 rfl rfl (by decide +kernel) ⟨(Nat.le_of_ble_eq_true rfl), (Nat.le_of_ble_eq_true rfl)⟩) [1, 2] rfl (by decide) 1 rfl rfl rfl rfl hl.1 rfl (Nat.le_of_ble_eq_true rfl) (kn_dec tX1_readSeeker 34 rfl) ⟨(Nat.le_of_ble_eq_true rfl), (Nat.le_of_ble_eq_true rfl)⟩) (fun r17 u18 H locs h I => ?_)
  have I : kn_I D tc (kn_A _ s.heap.size) s.heap [(kHillReader, ad_g, _), (kReader, ad_r, _), (kTin, ad_t, _), (kHill, ad_h, _)] _ _ := I.sub [0, 2, 3, 1] (by decide) rfl
  obtain ⟨hs19, h⟩ := h
  refine kw_iast hx hb hK I 3 rfl 15 4 (List.mem_of_getElem? (i := 7) rfl) ukHill_15 hs19 (kn_dec tX1_readSeeker 35 rfl) (fun v_h20 ev_h20 H locs I => ?_)
  have h := h v_h20 ev_h20
  have I : kn_I D tc (kn_A _ s.heap.size) s.heap [(kHillReader, ad_g, _), (kReader, ad_r, _), (kTin, ad_t, _), (kHill, ad_h, _)] _ _ := I
  exact kw_vret hx hb hr hlocks I (u18, v_h20) rfl h (kn_dec tX1_readSeeker 36 rfl)

/-! X1_readNumbers -/
abbrev rmX1_readNumbers : Room := { frames := 3, cells := 0, slots := 0, locals := 68 }
def PX1_readNumbers  (v_g : OV) (v_r : OV) (v_t : OV) (v_h : OV) (a2 : Int32) (post : OV → OV → Prop) : Prop := ((a2 = (0 : Int32) → (PX2_number v_r v_t ((0 : Int32)) ((99 : Int32)) (fun r3 v_r2 => (∀ v_h5 : OV, v_h5 = si v_h 1 r3 → (PX2_number v_r2 v_t ((1 : Int32)) ((50 : Int32)) (fun r7 v_r6 => (∀ v_h9 : OV, v_h9 = si v_h5 2 r7 → (PX2_number v_r6 v_t ((0 : Int32)) ((99 : Int32)) (fun r11 v_r10 => (∀ v_h13 : OV, v_h13 = si v_h9 3 r11 → post v_r10 v_h13)))))))))) ∧ (¬ a2 = (0 : Int32) → ((a2 = (1 : Int32) → (PX2_number v_r v_t ((0 : Int32)) ((99 : Int32)) (fun r16 v_r15 => (vp_in (v_h.1 4) 10 ∧ (∀ v_h19 : OV, v_h19 = sa v_h 5 (upd (v_h.2.1 5) (v_h.1 4).toNatClampNeg r16) → (PX2_number v_r15 v_t ((1 : Int32)) ((20 : Int32)) (fun r21 v_r20 => (vp_in (v_h19.1 4) 10 ∧ (∀ v_h24 : OV, v_h24 = sa v_h19 6 (upd (v_h19.2.1 6) (v_h19.1 4).toNatClampNeg r21) → (PX2_number v_r20 v_t ((0 : Int32)) ((9 : Int32)) (fun r26 v_r25 => (vp_in (v_h24.1 4) 10 ∧ (∀ v_h29 : OV, v_h29 = sa v_h24 7 (upd (v_h24.2.1 7) (v_h24.1 4).toNatClampNeg r26) → (∀ x30 : Int32, x30 = ((v_h29.1 4) + ((1 : Int32))) → (∀ v_h31 : OV, v_h31 = si v_h29 4 x30 → post v_r25 v_h31))))))))))))))) ∧ (¬ a2 = (1 : Int32) → ((a2 = (2 : Int32) → (PX2_number v_r v_t ((0 : Int32)) ((v_h.1 4) - ((1 : Int32))) (fun r34 v_r33 => (∀ v_h36 : OV, v_h36 = si v_h 8 r34 → post v_r33 v_h36)))) ∧ (¬ a2 = (2 : Int32) → ((a2 = (3 : Int32) → (PX2_number v_r v_t ((0 : Int32)) ((99 : Int32)) (fun r39 v_r38 => (vp_in (v_h.1 9) 6 ∧ (∀ v_h42 : OV, v_h42 = sa v_h 10 (upd (v_h.2.1 10) (v_h.1 9).toNatClampNeg r39) → (∀ x43 : Int32, x43 = ((v_h42.1 9) + ((1 : Int32))) → (∀ v_h44 : OV, v_h44 = si v_h42 9 x43 → post v_r38 v_h44))))))) ∧ (¬ a2 = (3 : Int32) → ((a2 = (4 : Int32) → (PX1_readSeeker v_g v_r v_t v_h (v_h.1 11) (fun v_r46 v_h47 => (∀ x49 : Int32, x49 = ((v_h47.1 11) + ((1 : Int32))) → (∀ v_h50 : OV, v_h50 = si v_h47 11 x49 → post v_r46 v_h50))))) ∧ (¬ a2 = (4 : Int32) → (PX2_number v_r v_t ((0 : Int32)) ((99 : Int32)) (fun r52 v_r51 => (vp_in (v_h.1 16) 8 ∧ (∀ v_h55 : OV, v_h55 = sa v_h 17 (upd (v_h.2.1 17) (v_h.1 16).toNatClampNeg r52) → (∀ x56 : Int32, x56 = ((v_h55.1 16) + ((1 : Int32))) → (∀ v_h57 : OV, v_h57 = si v_h55 16 x56 → post v_r51 v_h57))))))))))))))))
set_option maxRecDepth 100000 in
set_option maxHeartbeats 1000000 in
theorem ctX1_readNumbers {l : Launch} {D : va_G} {tc : Nat → ClassId} {Z : (Nat → Nat) × (Nat → Nat)}  {ad_g : Nat → Nat} {ad_r : Nat → Nat} {ad_t : Nat → Nat} {ad_h : Nat → Nat} {v_g : OV} {v_r : OV} {v_t : OV} {v_h : OV} {a2 : Int32} (e_r_0 : ad_r (0 + 1) = ad_t (0 + 1)) (e_g_0 : ad_g (0 + 1) = ad_r 0)   {post : OV → OV → Prop} (h : PX1_readNumbers  v_g v_r v_t v_h a2 post) : CTv l D tc Z yX1_readNumbers (Cond.code yX1_readNumbers cX1_readNumbers 3 none :: kn_all) rmX1_readNumbers 0 0 [.ref (ad_g 0), .ref (ad_h 0), .int a2] [(kHillReader, ad_g, v_g), (kReader, ad_r, v_r), (kTin, ad_t, v_t), (kHill, ad_h, v_h)] (fun (u : OV × OV) => [(kHillReader, ad_g, v_g), (kReader, ad_r, u.1), (kTin, ad_t, v_t), (kHill, ad_h, u.2)]) (fun (u : OV × OV) => post u.1 u.2) := by
  refine kn_ofv (cc := cX1_readNumbers) (nL := 3) (ret := none) (lv := [(0, .ref (ad_g 0)), (1, .ref (ad_h 0)), (2, .int a2)]) (by decide) (Nat.le_of_ble_eq_true rfl) rfl (fun p e s m below meth c ls X I hl _ => ?_)
  obtain ⟨S0, hr, hlocks, hK, hZ, hA⟩ := id X
  obtain ⟨hx, hb, hml, hown, hts⟩ := id S0
  unfold PX1_readNumbers at h
  refine lv_iload_n hx hb (kn_dec tX1_readNumbers_t0 0 rfl) rfl (lv_at hl 2 rfl) ?_
  rcases Classical.em (a2 = (0 : Int32)) with c1 | c1
  · have h := h.1 c1
    refine lv_tableIn (off := 35) (tgt := 36) hx hb (kn_dec tX1_readNumbers_t0 1 rfl) (by rw [c1]; decide) (by rw [c1]; decide) (by rw [c1]; rfl) (by decide) ?_
    refine lv_aload_n hx hb (kn_dec tX1_readNumbers_t0 2 rfl) rfl (lv_at hl 1 rfl) ?_
    refine lv_aload_n hx hb (kn_dec tX1_readNumbers_t0 3 rfl) rfl (lv_at hl 0 rfl) ?_
    refine kw_getl hx hb hts inX1 hown hK I 0 rfl rfl 0 (by decide) rfl (hts _ q1_56) (kn_dec tX1_readNumbers_t0 4 rfl) e_g_0 ?_
    refine lv_iconst (v := (0)) hx hb (kn_dec tX1_readNumbers_t0 5 rfl) (by decide) ?_
    refine lv_bipush (v := (99)) hx hb (kn_dec tX1_readNumbers_t0 6 rfl) (by decide) ?_
    refine kw_calli (wc := [(kReader, ad_r, _), (kTin, ad_t, _)]) (wr := [(kHillReader, ad_g, _), (kHill, ad_h, _)]) I hA [1, 2] [0, 3] rfl rfl (by decide) (by decide) (kn_runV (As := [.int _, .int _]) S0 hK hZ hA I ((ctX2_number e_r_0 h).met _) (kn_cwV 2 hts q3_10 q3_11 q3_12 q1_3 q3_13 rfl rfl (by decide +kernel) ⟨(Nat.le_of_ble_eq_true rfl), (Nat.le_of_ble_eq_true rfl)⟩) [1, 2] rfl (by decide) 1 rfl rfl rfl rfl hl.1 rfl (Nat.le_of_ble_eq_true rfl) (kn_dec tX1_readNumbers_t0 7 rfl) ⟨(Nat.le_of_ble_eq_true rfl), (Nat.le_of_ble_eq_true rfl)⟩) (fun r3 u4 H locs h I => ?_)
    have I : kn_I D tc (kn_A _ s.heap.size) s.heap [(kHillReader, ad_g, _), (kReader, ad_r, _), (kTin, ad_t, _), (kHill, ad_h, _)] _ _ := I.sub [0, 2, 3, 1] (by decide) rfl
    refine kw_puti hx hb hts inX0 tyX0 tyX0_ok nmX0 hown hK I 3 rfl rfl 1 (by decide) rfl (hts _ q1_121) rfl rfl rfl (kn_dec tX1_readNumbers_t0 8 rfl) (fun v_h5 ev_h5 H locs I => ?_)
    have h := h v_h5 ev_h5
    have I : kn_I D tc (kn_A _ s.heap.size) s.heap [(kHillReader, ad_g, _), (kReader, ad_r, _), (kTin, ad_t, _), (kHill, ad_h, _)] _ _ := I
    refine lv_aload_n hx hb (kn_dec tX1_readNumbers_t0 9 rfl) rfl (lv_at hl 1 rfl) ?_
    refine lv_aload_n hx hb (kn_dec tX1_readNumbers_t0 10 rfl) rfl (lv_at hl 0 rfl) ?_
    refine kw_getl hx hb hts inX1 hown hK I 0 rfl rfl 0 (by decide) rfl (hts _ q1_56) (kn_dec tX1_readNumbers_t0 11 rfl) e_g_0 ?_
    refine lv_iconst (v := (1)) hx hb (kn_dec tX1_readNumbers_t0 12 rfl) (by decide) ?_
    refine lv_bipush (v := (50)) hx hb (kn_dec tX1_readNumbers_t0 13 rfl) (by decide) ?_
    refine kw_calli (wc := [(kReader, ad_r, _), (kTin, ad_t, _)]) (wr := [(kHillReader, ad_g, _), (kHill, ad_h, _)]) I hA [1, 2] [0, 3] rfl rfl (by decide) (by decide) (kn_runV (As := [.int _, .int _]) S0 hK hZ hA I ((ctX2_number e_r_0 h).met _) (kn_cwV 2 hts q3_10 q3_11 q3_12 q1_3 q3_13 rfl rfl (by decide +kernel) ⟨(Nat.le_of_ble_eq_true rfl), (Nat.le_of_ble_eq_true rfl)⟩) [1, 2] rfl (by decide) 1 rfl rfl rfl rfl hl.1 rfl (Nat.le_of_ble_eq_true rfl) (kn_dec tX1_readNumbers_t0 14 rfl) ⟨(Nat.le_of_ble_eq_true rfl), (Nat.le_of_ble_eq_true rfl)⟩) (fun r7 u8 H locs h I => ?_)
    have I : kn_I D tc (kn_A _ s.heap.size) s.heap [(kHillReader, ad_g, _), (kReader, ad_r, _), (kTin, ad_t, _), (kHill, ad_h, _)] _ _ := I.sub [0, 2, 3, 1] (by decide) rfl
    refine kw_puti hx hb hts inX0 tyX0 tyX0_ok nmX0 hown hK I 3 rfl rfl 2 (by decide) rfl (hts _ q1_122) rfl rfl rfl (kn_dec tX1_readNumbers_t0 15 rfl) (fun v_h9 ev_h9 H locs I => ?_)
    have h := h v_h9 ev_h9
    have I : kn_I D tc (kn_A _ s.heap.size) s.heap [(kHillReader, ad_g, _), (kReader, ad_r, _), (kTin, ad_t, _), (kHill, ad_h, _)] _ _ := I
    refine lv_aload_n hx hb (kn_dec tX1_readNumbers_t0 16 rfl) rfl (lv_at hl 1 rfl) ?_
    refine lv_aload_n hx hb (kn_dec tX1_readNumbers_t0 17 rfl) rfl (lv_at hl 0 rfl) ?_
    refine kw_getl hx hb hts inX1 hown hK I 0 rfl rfl 0 (by decide) rfl (hts _ q1_56) (kn_dec tX1_readNumbers_t0 18 rfl) e_g_0 ?_
    refine lv_iconst (v := (0)) hx hb (kn_dec tX1_readNumbers_t0 19 rfl) (by decide) ?_
    refine lv_bipush (v := (99)) hx hb (kn_dec tX1_readNumbers_t0 20 rfl) (by decide) ?_
    refine kw_calli (wc := [(kReader, ad_r, _), (kTin, ad_t, _)]) (wr := [(kHillReader, ad_g, _), (kHill, ad_h, _)]) I hA [1, 2] [0, 3] rfl rfl (by decide) (by decide) (kn_runV (As := [.int _, .int _]) S0 hK hZ hA I ((ctX2_number e_r_0 h).met _) (kn_cwV 2 hts q3_10 q3_11 q3_12 q1_3 q3_13 rfl rfl (by decide +kernel) ⟨(Nat.le_of_ble_eq_true rfl), (Nat.le_of_ble_eq_true rfl)⟩) [1, 2] rfl (by decide) 1 rfl rfl rfl rfl hl.1 rfl (Nat.le_of_ble_eq_true rfl) (kn_dec tX1_readNumbers_t0 21 rfl) ⟨(Nat.le_of_ble_eq_true rfl), (Nat.le_of_ble_eq_true rfl)⟩) (fun r11 u12 H locs h I => ?_)
    have I : kn_I D tc (kn_A _ s.heap.size) s.heap [(kHillReader, ad_g, _), (kReader, ad_r, _), (kTin, ad_t, _), (kHill, ad_h, _)] _ _ := I.sub [0, 2, 3, 1] (by decide) rfl
    refine kw_puti hx hb hts inX0 tyX0 tyX0_ok nmX0 hown hK I 3 rfl rfl 3 (by decide) rfl (hts _ q1_126) rfl rfl rfl (kn_dec tX1_readNumbers_t0 22 rfl) (fun v_h13 ev_h13 H locs I => ?_)
    have h := h v_h13 ev_h13
    have I : kn_I D tc (kn_A _ s.heap.size) s.heap [(kHillReader, ad_g, _), (kReader, ad_r, _), (kTin, ad_t, _), (kHill, ad_h, _)] _ _ := I
    refine lv_goto (tgt := 255) hx hb (kn_dec tX1_readNumbers_t0 23 rfl) (by decide) ?_
    exact kw_vret hx hb hr hlocks I (u12, v_h13) rfl h (kn_dec tX1_readNumbers_t1 57 rfl)
  · have h := h.2 c1
    rcases Classical.em (a2 = (1 : Int32)) with c14 | c14
    · have h := h.1 c14
      refine lv_tableIn (off := 80) (tgt := 81) hx hb (kn_dec tX1_readNumbers_t0 1 rfl) (by rw [c14]; decide) (by rw [c14]; decide) (by rw [c14]; rfl) (by decide) ?_
      refine lv_aload_n hx hb (kn_dec tX1_readNumbers_t0 24 rfl) rfl (lv_at hl 1 rfl) ?_
      refine kw_getl hx hb hts inX0 hown hK I 3 rfl rfl 5 (by decide) rfl (hts _ q1_135) (kn_dec tX1_readNumbers_t0 25 rfl) rfl ?_
      refine lv_aload_n hx hb (kn_dec tX1_readNumbers_t0 26 rfl) rfl (lv_at hl 1 rfl) ?_
      refine kw_geti hx hb hts inX0 hown hK I 3 rfl rfl 4 (by decide) rfl (hts _ q1_130) (kn_dec tX1_readNumbers_t0 27 rfl) ?_
      refine lv_aload_n hx hb (kn_dec tX1_readNumbers_t0 28 rfl) rfl (lv_at hl 0 rfl) ?_
      refine kw_getl hx hb hts inX1 hown hK I 0 rfl rfl 0 (by decide) rfl (hts _ q1_56) (kn_dec tX1_readNumbers_t0 29 rfl) e_g_0 ?_
      refine lv_iconst (v := (0)) hx hb (kn_dec tX1_readNumbers_t0 30 rfl) (by decide) ?_
      refine lv_bipush (v := (99)) hx hb (kn_dec tX1_readNumbers_t0 31 rfl) (by decide) ?_
      refine kw_calli (wc := [(kReader, ad_r, _), (kTin, ad_t, _)]) (wr := [(kHillReader, ad_g, _), (kHill, ad_h, _)]) I hA [1, 2] [0, 3] rfl rfl (by decide) (by decide) (kn_runV (As := [.int _, .int _]) S0 hK hZ hA I ((ctX2_number e_r_0 h).met _) (kn_cwV 2 hts q3_10 q3_11 q3_12 q1_3 q3_13 rfl rfl (by decide +kernel) ⟨(Nat.le_of_ble_eq_true rfl), (Nat.le_of_ble_eq_true rfl)⟩) [1, 2] rfl (by decide) 1 rfl rfl rfl rfl hl.1 rfl (Nat.le_of_ble_eq_true rfl) (kn_dec tX1_readNumbers_t0 32 rfl) ⟨(Nat.le_of_ble_eq_true rfl), (Nat.le_of_ble_eq_true rfl)⟩) (fun r16 u17 H locs h I => ?_)
      have I : kn_I D tc (kn_A _ s.heap.size) s.heap [(kHillReader, ad_g, _), (kReader, ad_r, _), (kTin, ad_t, _), (kHill, ad_h, _)] _ _ := I.sub [0, 2, 3, 1] (by decide) rfl
      obtain ⟨hs18, h⟩ := h
      refine kw_iast hx hb hK I 3 rfl 5 10 (List.mem_of_getElem? (i := 0) rfl) ukHill_5 hs18 (kn_dec tX1_readNumbers_t0 33 rfl) (fun v_h19 ev_h19 H locs I => ?_)
      have h := h v_h19 ev_h19
      have I : kn_I D tc (kn_A _ s.heap.size) s.heap [(kHillReader, ad_g, _), (kReader, ad_r, _), (kTin, ad_t, _), (kHill, ad_h, _)] _ _ := I
      refine lv_aload_n hx hb (kn_dec tX1_readNumbers_t0 34 rfl) rfl (lv_at hl 1 rfl) ?_
      refine kw_getl hx hb hts inX0 hown hK I 3 rfl rfl 6 (by decide) rfl (hts _ q1_139) (kn_dec tX1_readNumbers_t0 35 rfl) rfl ?_
      refine lv_aload_n hx hb (kn_dec tX1_readNumbers_t0 36 rfl) rfl (lv_at hl 1 rfl) ?_
      refine kw_geti hx hb hts inX0 hown hK I 3 rfl rfl 4 (by decide) rfl (hts _ q1_130) (kn_dec tX1_readNumbers_t0 37 rfl) ?_
      refine lv_aload_n hx hb (kn_dec tX1_readNumbers_t0 38 rfl) rfl (lv_at hl 0 rfl) ?_
      refine kw_getl hx hb hts inX1 hown hK I 0 rfl rfl 0 (by decide) rfl (hts _ q1_56) (kn_dec tX1_readNumbers_t0 39 rfl) e_g_0 ?_
      refine lv_iconst (v := (1)) hx hb (kn_dec tX1_readNumbers_t0 40 rfl) (by decide) ?_
      refine lv_bipush (v := (20)) hx hb (kn_dec tX1_readNumbers_t0 41 rfl) (by decide) ?_
      refine kw_calli (wc := [(kReader, ad_r, _), (kTin, ad_t, _)]) (wr := [(kHillReader, ad_g, _), (kHill, ad_h, _)]) I hA [1, 2] [0, 3] rfl rfl (by decide) (by decide) (kn_runV (As := [.int _, .int _]) S0 hK hZ hA I ((ctX2_number e_r_0 h).met _) (kn_cwV 2 hts q3_10 q3_11 q3_12 q1_3 q3_13 rfl rfl (by decide +kernel) ⟨(Nat.le_of_ble_eq_true rfl), (Nat.le_of_ble_eq_true rfl)⟩) [1, 2] rfl (by decide) 1 rfl rfl rfl rfl hl.1 rfl (Nat.le_of_ble_eq_true rfl) (kn_dec tX1_readNumbers_t0 42 rfl) ⟨(Nat.le_of_ble_eq_true rfl), (Nat.le_of_ble_eq_true rfl)⟩) (fun r21 u22 H locs h I => ?_)
      have I : kn_I D tc (kn_A _ s.heap.size) s.heap [(kHillReader, ad_g, _), (kReader, ad_r, _), (kTin, ad_t, _), (kHill, ad_h, _)] _ _ := I.sub [0, 2, 3, 1] (by decide) rfl
      obtain ⟨hs23, h⟩ := h
      refine kw_iast hx hb hK I 3 rfl 6 10 (List.mem_of_getElem? (i := 1) rfl) ukHill_6 hs23 (kn_dec tX1_readNumbers_t0 43 rfl) (fun v_h24 ev_h24 H locs I => ?_)
      have h := h v_h24 ev_h24
      have I : kn_I D tc (kn_A _ s.heap.size) s.heap [(kHillReader, ad_g, _), (kReader, ad_r, _), (kTin, ad_t, _), (kHill, ad_h, _)] _ _ := I
      refine lv_aload_n hx hb (kn_dec tX1_readNumbers_t0 44 rfl) rfl (lv_at hl 1 rfl) ?_
      refine kw_getl hx hb hts inX0 hown hK I 3 rfl rfl 7 (by decide) rfl (hts _ q1_143) (kn_dec tX1_readNumbers_t0 45 rfl) rfl ?_
      refine lv_aload_n hx hb (kn_dec tX1_readNumbers_t0 46 rfl) rfl (lv_at hl 1 rfl) ?_
      refine kw_geti hx hb hts inX0 hown hK I 3 rfl rfl 4 (by decide) rfl (hts _ q1_130) (kn_dec tX1_readNumbers_t0 47 rfl) ?_
      refine lv_aload_n hx hb (kn_dec tX1_readNumbers_t0 48 rfl) rfl (lv_at hl 0 rfl) ?_
      refine kw_getl hx hb hts inX1 hown hK I 0 rfl rfl 0 (by decide) rfl (hts _ q1_56) (kn_dec tX1_readNumbers_t0 49 rfl) e_g_0 ?_
      refine lv_iconst (v := (0)) hx hb (kn_dec tX1_readNumbers_t0 50 rfl) (by decide) ?_
      refine lv_bipush (v := (9)) hx hb (kn_dec tX1_readNumbers_t0 51 rfl) (by decide) ?_
      refine kw_calli (wc := [(kReader, ad_r, _), (kTin, ad_t, _)]) (wr := [(kHillReader, ad_g, _), (kHill, ad_h, _)]) I hA [1, 2] [0, 3] rfl rfl (by decide) (by decide) (kn_runV (As := [.int _, .int _]) S0 hK hZ hA I ((ctX2_number e_r_0 h).met _) (kn_cwV 2 hts q3_10 q3_11 q3_12 q1_3 q3_13 rfl rfl (by decide +kernel) ⟨(Nat.le_of_ble_eq_true rfl), (Nat.le_of_ble_eq_true rfl)⟩) [1, 2] rfl (by decide) 1 rfl rfl rfl rfl hl.1 rfl (Nat.le_of_ble_eq_true rfl) (kn_dec tX1_readNumbers_t0 52 rfl) ⟨(Nat.le_of_ble_eq_true rfl), (Nat.le_of_ble_eq_true rfl)⟩) (fun r26 u27 H locs h I => ?_)
      have I : kn_I D tc (kn_A _ s.heap.size) s.heap [(kHillReader, ad_g, _), (kReader, ad_r, _), (kTin, ad_t, _), (kHill, ad_h, _)] _ _ := I.sub [0, 2, 3, 1] (by decide) rfl
      obtain ⟨hs28, h⟩ := h
      refine kw_iast hx hb hK I 3 rfl 7 10 (List.mem_of_getElem? (i := 2) rfl) ukHill_7 hs28 (kn_dec tX1_readNumbers_t0 53 rfl) (fun v_h29 ev_h29 H locs I => ?_)
      have h := h v_h29 ev_h29
      have I : kn_I D tc (kn_A _ s.heap.size) s.heap [(kHillReader, ad_g, _), (kReader, ad_r, _), (kTin, ad_t, _), (kHill, ad_h, _)] _ _ := I
      refine lv_aload_n hx hb (kn_dec tX1_readNumbers_t0 54 rfl) rfl (lv_at hl 1 rfl) ?_
      refine lv_dup hx hb (kn_dec tX1_readNumbers_t0 55 rfl) rfl ?_
      refine kw_geti hx hb hts inX0 hown hK I 3 rfl rfl 4 (by decide) rfl (hts _ q1_130) (kn_dec tX1_readNumbers_t0 56 rfl) ?_
      refine lv_iconst (v := (1)) hx hb (kn_dec tX1_readNumbers_t0 57 rfl) (by decide) ?_
      refine lv_iadd hx hb (kn_dec tX1_readNumbers_t0 58 rfl) ?_
      refine lv_topi (fun x30 ex30 => ?_)
      have h := h x30 ex30
      refine kw_puti hx hb hts inX0 tyX0 tyX0_ok nmX0 hown hK I 3 rfl rfl 4 (by decide) rfl (hts _ q1_130) rfl rfl rfl (kn_dec tX1_readNumbers_t0 59 rfl) (fun v_h31 ev_h31 H locs I => ?_)
      have h := h v_h31 ev_h31
      have I : kn_I D tc (kn_A _ s.heap.size) s.heap [(kHillReader, ad_g, _), (kReader, ad_r, _), (kTin, ad_t, _), (kHill, ad_h, _)] _ _ := I
      refine lv_goto (tgt := 255) hx hb (kn_dec tX1_readNumbers_t1 0 rfl) (by decide) ?_
      exact kw_vret hx hb hr hlocks I (u27, v_h31) rfl h (kn_dec tX1_readNumbers_t1 57 rfl)
    · have h := h.2 c14
      rcases Classical.em (a2 = (2 : Int32)) with c32 | c32
      · have h := h.1 c32
        refine lv_tableIn (off := 150) (tgt := 151) hx hb (kn_dec tX1_readNumbers_t0 1 rfl) (by rw [c32]; decide) (by rw [c32]; decide) (by rw [c32]; rfl) (by decide) ?_
        refine lv_aload_n hx hb (kn_dec tX1_readNumbers_t1 1 rfl) rfl (lv_at hl 1 rfl) ?_
        refine lv_aload_n hx hb (kn_dec tX1_readNumbers_t1 2 rfl) rfl (lv_at hl 0 rfl) ?_
        refine kw_getl hx hb hts inX1 hown hK I 0 rfl rfl 0 (by decide) rfl (hts _ q1_56) (kn_dec tX1_readNumbers_t1 3 rfl) e_g_0 ?_
        refine lv_iconst (v := (0)) hx hb (kn_dec tX1_readNumbers_t1 4 rfl) (by decide) ?_
        refine lv_aload_n hx hb (kn_dec tX1_readNumbers_t1 5 rfl) rfl (lv_at hl 1 rfl) ?_
        refine kw_geti hx hb hts inX0 hown hK I 3 rfl rfl 4 (by decide) rfl (hts _ q1_130) (kn_dec tX1_readNumbers_t1 6 rfl) ?_
        refine lv_iconst (v := (1)) hx hb (kn_dec tX1_readNumbers_t1 7 rfl) (by decide) ?_
        refine lv_isub hx hb (kn_dec tX1_readNumbers_t1 8 rfl) ?_
        refine kw_calli (wc := [(kReader, ad_r, _), (kTin, ad_t, _)]) (wr := [(kHillReader, ad_g, _), (kHill, ad_h, _)]) I hA [1, 2] [0, 3] rfl rfl (by decide) (by decide) (kn_runV (As := [.int _, .int _]) S0 hK hZ hA I ((ctX2_number e_r_0 h).met _) (kn_cwV 2 hts q3_10 q3_11 q3_12 q1_3 q3_13 rfl rfl (by decide +kernel) ⟨(Nat.le_of_ble_eq_true rfl), (Nat.le_of_ble_eq_true rfl)⟩) [1, 2] rfl (by decide) 1 rfl rfl rfl rfl hl.1 rfl (Nat.le_of_ble_eq_true rfl) (kn_dec tX1_readNumbers_t1 9 rfl) ⟨(Nat.le_of_ble_eq_true rfl), (Nat.le_of_ble_eq_true rfl)⟩) (fun r34 u35 H locs h I => ?_)
        have I : kn_I D tc (kn_A _ s.heap.size) s.heap [(kHillReader, ad_g, _), (kReader, ad_r, _), (kTin, ad_t, _), (kHill, ad_h, _)] _ _ := I.sub [0, 2, 3, 1] (by decide) rfl
        refine kw_puti hx hb hts inX0 tyX0 tyX0_ok nmX0 hown hK I 3 rfl rfl 8 (by decide) rfl (hts _ q1_147) rfl rfl rfl (kn_dec tX1_readNumbers_t1 10 rfl) (fun v_h36 ev_h36 H locs I => ?_)
        have h := h v_h36 ev_h36
        have I : kn_I D tc (kn_A _ s.heap.size) s.heap [(kHillReader, ad_g, _), (kReader, ad_r, _), (kTin, ad_t, _), (kHill, ad_h, _)] _ _ := I
        refine lv_goto (tgt := 255) hx hb (kn_dec tX1_readNumbers_t1 11 rfl) (by decide) ?_
        exact kw_vret hx hb hr hlocks I (u35, v_h36) rfl h (kn_dec tX1_readNumbers_t1 57 rfl)
      · have h := h.2 c32
        rcases Classical.em (a2 = (3 : Int32)) with c37 | c37
        · have h := h.1 c37
          refine lv_tableIn (off := 171) (tgt := 172) hx hb (kn_dec tX1_readNumbers_t0 1 rfl) (by rw [c37]; decide) (by rw [c37]; decide) (by rw [c37]; rfl) (by decide) ?_
          refine lv_aload_n hx hb (kn_dec tX1_readNumbers_t1 12 rfl) rfl (lv_at hl 1 rfl) ?_
          refine kw_getl hx hb hts inX0 hown hK I 3 rfl rfl 10 (by decide) rfl (hts _ q1_153) (kn_dec tX1_readNumbers_t1 13 rfl) rfl ?_
          refine lv_aload_n hx hb (kn_dec tX1_readNumbers_t1 14 rfl) rfl (lv_at hl 1 rfl) ?_
          refine kw_geti hx hb hts inX0 hown hK I 3 rfl rfl 9 (by decide) rfl (hts _ q1_148) (kn_dec tX1_readNumbers_t1 15 rfl) ?_
          refine lv_aload_n hx hb (kn_dec tX1_readNumbers_t1 16 rfl) rfl (lv_at hl 0 rfl) ?_
          refine kw_getl hx hb hts inX1 hown hK I 0 rfl rfl 0 (by decide) rfl (hts _ q1_56) (kn_dec tX1_readNumbers_t1 17 rfl) e_g_0 ?_
          refine lv_iconst (v := (0)) hx hb (kn_dec tX1_readNumbers_t1 18 rfl) (by decide) ?_
          refine lv_bipush (v := (99)) hx hb (kn_dec tX1_readNumbers_t1 19 rfl) (by decide) ?_
          refine kw_calli (wc := [(kReader, ad_r, _), (kTin, ad_t, _)]) (wr := [(kHillReader, ad_g, _), (kHill, ad_h, _)]) I hA [1, 2] [0, 3] rfl rfl (by decide) (by decide) (kn_runV (As := [.int _, .int _]) S0 hK hZ hA I ((ctX2_number e_r_0 h).met _) (kn_cwV 2 hts q3_10 q3_11 q3_12 q1_3 q3_13 rfl rfl (by decide +kernel) ⟨(Nat.le_of_ble_eq_true rfl), (Nat.le_of_ble_eq_true rfl)⟩) [1, 2] rfl (by decide) 1 rfl rfl rfl rfl hl.1 rfl (Nat.le_of_ble_eq_true rfl) (kn_dec tX1_readNumbers_t1 20 rfl) ⟨(Nat.le_of_ble_eq_true rfl), (Nat.le_of_ble_eq_true rfl)⟩) (fun r39 u40 H locs h I => ?_)
          have I : kn_I D tc (kn_A _ s.heap.size) s.heap [(kHillReader, ad_g, _), (kReader, ad_r, _), (kTin, ad_t, _), (kHill, ad_h, _)] _ _ := I.sub [0, 2, 3, 1] (by decide) rfl
          obtain ⟨hs41, h⟩ := h
          refine kw_iast hx hb hK I 3 rfl 10 6 (List.mem_of_getElem? (i := 3) rfl) ukHill_10 hs41 (kn_dec tX1_readNumbers_t1 21 rfl) (fun v_h42 ev_h42 H locs I => ?_)
          have h := h v_h42 ev_h42
          have I : kn_I D tc (kn_A _ s.heap.size) s.heap [(kHillReader, ad_g, _), (kReader, ad_r, _), (kTin, ad_t, _), (kHill, ad_h, _)] _ _ := I
          refine lv_aload_n hx hb (kn_dec tX1_readNumbers_t1 22 rfl) rfl (lv_at hl 1 rfl) ?_
          refine lv_dup hx hb (kn_dec tX1_readNumbers_t1 23 rfl) rfl ?_
          refine kw_geti hx hb hts inX0 hown hK I 3 rfl rfl 9 (by decide) rfl (hts _ q1_148) (kn_dec tX1_readNumbers_t1 24 rfl) ?_
          refine lv_iconst (v := (1)) hx hb (kn_dec tX1_readNumbers_t1 25 rfl) (by decide) ?_
          refine lv_iadd hx hb (kn_dec tX1_readNumbers_t1 26 rfl) ?_
          refine lv_topi (fun x43 ex43 => ?_)
          have h := h x43 ex43
          refine kw_puti hx hb hts inX0 tyX0 tyX0_ok nmX0 hown hK I 3 rfl rfl 9 (by decide) rfl (hts _ q1_148) rfl rfl rfl (kn_dec tX1_readNumbers_t1 27 rfl) (fun v_h44 ev_h44 H locs I => ?_)
          have h := h v_h44 ev_h44
          have I : kn_I D tc (kn_A _ s.heap.size) s.heap [(kHillReader, ad_g, _), (kReader, ad_r, _), (kTin, ad_t, _), (kHill, ad_h, _)] _ _ := I
          refine lv_goto (tgt := 255) hx hb (kn_dec tX1_readNumbers_t1 28 rfl) (by decide) ?_
          exact kw_vret hx hb hr hlocks I (u40, v_h44) rfl h (kn_dec tX1_readNumbers_t1 57 rfl)
        · have h := h.2 c37
          rcases Classical.em (a2 = (4 : Int32)) with c45 | c45
          · have h := h.1 c45
            refine lv_tableIn (off := 203) (tgt := 204) hx hb (kn_dec tX1_readNumbers_t0 1 rfl) (by rw [c45]; decide) (by rw [c45]; decide) (by rw [c45]; rfl) (by decide) ?_
            refine lv_aload_n hx hb (kn_dec tX1_readNumbers_t1 29 rfl) rfl (lv_at hl 0 rfl) ?_
            refine lv_aload_n hx hb (kn_dec tX1_readNumbers_t1 30 rfl) rfl (lv_at hl 1 rfl) ?_
            refine lv_aload_n hx hb (kn_dec tX1_readNumbers_t1 31 rfl) rfl (lv_at hl 1 rfl) ?_
            refine kw_geti hx hb hts inX0 hown hK I 3 rfl rfl 11 (by decide) rfl (hts _ q1_155) (kn_dec tX1_readNumbers_t1 32 rfl) ?_
            refine kw_callv (wc := [(kHillReader, ad_g, _), (kReader, ad_r, _), (kTin, ad_t, _), (kHill, ad_h, _)]) (wr := []) I hA [0, 1, 2, 3] [] rfl rfl (by decide) (by decide) (kn_runV (As := [.ref (ad_h 0), .int _]) S0 hK hZ hA I ((ctX1_readSeeker e_r_0 e_g_0 h).met _) (kn_cwV 2 hts q3_18 q3_20 q0_4 q1_2 q3_21 rfl rfl (by decide +kernel) ⟨(Nat.le_of_ble_eq_true rfl), (Nat.le_of_ble_eq_true rfl)⟩) [0, 1, 2, 3] rfl (by decide) 0 rfl rfl rfl rfl hl.1 rfl (Nat.le_of_ble_eq_true rfl) (kn_dec tX1_readNumbers_t1 33 rfl) ⟨(Nat.le_of_ble_eq_true rfl), (Nat.le_of_ble_eq_true rfl)⟩) (fun u48 H locs h I => ?_)
            have I : kn_I D tc (kn_A _ s.heap.size) s.heap [(kHillReader, ad_g, _), (kReader, ad_r, _), (kTin, ad_t, _), (kHill, ad_h, _)] _ _ := I
            refine lv_aload_n hx hb (kn_dec tX1_readNumbers_t1 34 rfl) rfl (lv_at hl 1 rfl) ?_
            refine lv_dup hx hb (kn_dec tX1_readNumbers_t1 35 rfl) rfl ?_
            refine kw_geti hx hb hts inX0 hown hK I 3 rfl rfl 11 (by decide) rfl (hts _ q1_155) (kn_dec tX1_readNumbers_t1 36 rfl) ?_
            refine lv_iconst (v := (1)) hx hb (kn_dec tX1_readNumbers_t1 37 rfl) (by decide) ?_
            refine lv_iadd hx hb (kn_dec tX1_readNumbers_t1 38 rfl) ?_
            refine lv_topi (fun x49 ex49 => ?_)
            have h := h x49 ex49
            refine kw_puti hx hb hts inX0 tyX0 tyX0_ok nmX0 hown hK I 3 rfl rfl 11 (by decide) rfl (hts _ q1_155) rfl rfl rfl (kn_dec tX1_readNumbers_t1 39 rfl) (fun v_h50 ev_h50 H locs I => ?_)
            have h := h v_h50 ev_h50
            have I : kn_I D tc (kn_A _ s.heap.size) s.heap [(kHillReader, ad_g, _), (kReader, ad_r, _), (kTin, ad_t, _), (kHill, ad_h, _)] _ _ := I
            refine lv_goto (tgt := 255) hx hb (kn_dec tX1_readNumbers_t1 40 rfl) (by decide) ?_
            exact kw_vret hx hb hr hlocks I (u48.1, v_h50) rfl h (kn_dec tX1_readNumbers_t1 57 rfl)
          · have h := h.2 c45
            refine lv_tableOut (tgt := 226) hx hb (kn_dec tX1_readNumbers_t0 1 rfl) (by have z0 := kn_nei (k := 0) c1 (by decide); have z1 := kn_nei (k := 1) c14 (by decide); have z2 := kn_nei (k := 2) c32 (by decide); have z3 := kn_nei (k := 3) c37 (by decide); have z4 := kn_nei (k := 4) c45 (by decide); omega) (by decide) ?_
            refine lv_aload_n hx hb (kn_dec tX1_readNumbers_t1 41 rfl) rfl (lv_at hl 1 rfl) ?_
            refine kw_getl hx hb hts inX0 hown hK I 3 rfl rfl 17 (by decide) rfl (hts _ q1_175) (kn_dec tX1_readNumbers_t1 42 rfl) rfl ?_
            refine lv_aload_n hx hb (kn_dec tX1_readNumbers_t1 43 rfl) rfl (lv_at hl 1 rfl) ?_
            refine kw_geti hx hb hts inX0 hown hK I 3 rfl rfl 16 (by decide) rfl (hts _ q1_173) (kn_dec tX1_readNumbers_t1 44 rfl) ?_
            refine lv_aload_n hx hb (kn_dec tX1_readNumbers_t1 45 rfl) rfl (lv_at hl 0 rfl) ?_
            refine kw_getl hx hb hts inX1 hown hK I 0 rfl rfl 0 (by decide) rfl (hts _ q1_56) (kn_dec tX1_readNumbers_t1 46 rfl) e_g_0 ?_
            refine lv_iconst (v := (0)) hx hb (kn_dec tX1_readNumbers_t1 47 rfl) (by decide) ?_
            refine lv_bipush (v := (99)) hx hb (kn_dec tX1_readNumbers_t1 48 rfl) (by decide) ?_
            refine kw_calli (wc := [(kReader, ad_r, _), (kTin, ad_t, _)]) (wr := [(kHillReader, ad_g, _), (kHill, ad_h, _)]) I hA [1, 2] [0, 3] rfl rfl (by decide) (by decide) (kn_runV (As := [.int _, .int _]) S0 hK hZ hA I ((ctX2_number e_r_0 h).met _) (kn_cwV 2 hts q3_10 q3_11 q3_12 q1_3 q3_13 rfl rfl (by decide +kernel) ⟨(Nat.le_of_ble_eq_true rfl), (Nat.le_of_ble_eq_true rfl)⟩) [1, 2] rfl (by decide) 1 rfl rfl rfl rfl hl.1 rfl (Nat.le_of_ble_eq_true rfl) (kn_dec tX1_readNumbers_t1 49 rfl) ⟨(Nat.le_of_ble_eq_true rfl), (Nat.le_of_ble_eq_true rfl)⟩) (fun r52 u53 H locs h I => ?_)
            have I : kn_I D tc (kn_A _ s.heap.size) s.heap [(kHillReader, ad_g, _), (kReader, ad_r, _), (kTin, ad_t, _), (kHill, ad_h, _)] _ _ := I.sub [0, 2, 3, 1] (by decide) rfl
            obtain ⟨hs54, h⟩ := h
            refine kw_iast hx hb hK I 3 rfl 17 8 (List.mem_of_getElem? (i := 8) rfl) ukHill_17 hs54 (kn_dec tX1_readNumbers_t1 50 rfl) (fun v_h55 ev_h55 H locs I => ?_)
            have h := h v_h55 ev_h55
            have I : kn_I D tc (kn_A _ s.heap.size) s.heap [(kHillReader, ad_g, _), (kReader, ad_r, _), (kTin, ad_t, _), (kHill, ad_h, _)] _ _ := I
            refine lv_aload_n hx hb (kn_dec tX1_readNumbers_t1 51 rfl) rfl (lv_at hl 1 rfl) ?_
            refine lv_dup hx hb (kn_dec tX1_readNumbers_t1 52 rfl) rfl ?_
            refine kw_geti hx hb hts inX0 hown hK I 3 rfl rfl 16 (by decide) rfl (hts _ q1_173) (kn_dec tX1_readNumbers_t1 53 rfl) ?_
            refine lv_iconst (v := (1)) hx hb (kn_dec tX1_readNumbers_t1 54 rfl) (by decide) ?_
            refine lv_iadd hx hb (kn_dec tX1_readNumbers_t1 55 rfl) ?_
            refine lv_topi (fun x56 ex56 => ?_)
            have h := h x56 ex56
            refine kw_puti hx hb hts inX0 tyX0 tyX0_ok nmX0 hown hK I 3 rfl rfl 16 (by decide) rfl (hts _ q1_173) rfl rfl rfl (kn_dec tX1_readNumbers_t1 56 rfl) (fun v_h57 ev_h57 H locs I => ?_)
            have h := h v_h57 ev_h57
            have I : kn_I D tc (kn_A _ s.heap.size) s.heap [(kHillReader, ad_g, _), (kReader, ad_r, _), (kTin, ad_t, _), (kHill, ad_h, _)] _ _ := I
            exact kw_vret hx hb hr hlocks I (u53, v_h57) rfl h (kn_dec tX1_readNumbers_t1 57 rfl)

/-! X1_readClause -/
abbrev rmX1_readClause : Room := { frames := 6, cells := 0, slots := 0, locals := 134 }
def PX1_readClause_b68 (v_g : OV) (v_t : OV)  (post : OV → OV → Prop) (v_r : OV) (v_h : OV) : Prop := (PX2_failAt v_r v_t (v_r.1 2) ((4 : Int32)) (fun v_r1 => post v_r1 v_h))
set_option maxRecDepth 100000 in
set_option maxHeartbeats 1000000 in
theorem wX1_readClause_b68 {v_g : OV} {v_t : OV}  {post : OV → OV → Prop} {ad_g : Nat → Nat} {ad_r : Nat → Nat} {ad_t : Nat → Nat} {ad_h : Nat → Nat} (X : kn_X p s m args meth c cX1_readClause 4 none RX1 kn_all D tc Z (kn_A w0 s.heap.size)) (e_r_0 : ad_r (0 + 1) = ad_t (0 + 1)) (e_g_0 : ad_g (0 + 1) = ad_r 0)   : ∀ (H : Heap) (locs : List Loc) (ls : Array Slot) (v_r : OV) (v_h : OV), kn_I D tc (kn_A w0 s.heap.size) s.heap [(kHillReader, ad_g, v_g), (kReader, ad_r, v_r), (kTin, ad_t, v_t), (kHill, ad_h, v_h)] H locs → lv_has ls 4 [(0, .ref (ad_g 0))] → PX1_readClause_b68 v_g v_t post v_r v_h → W p l e rmX1_readClause s m args below meth c H locs 0 0 (kn_Qv D tc w0 (fun (u : OV × OV) => [(kHillReader, ad_g, v_g), (kReader, ad_r, u.1), (kTin, ad_t, v_t), (kHill, ad_h, u.2)]) (fun (u : OV × OV) => post u.1 u.2) below args s 0 0) (F0 m 68 ls []) := by
  obtain ⟨S0, hr, hlocks, hK, hZ, hA⟩ := id X
  obtain ⟨hx, hb, hml, hown, hts⟩ := id S0
  intro H locs ls v_r v_h I hl h
  unfold PX1_readClause_b68 at h
  refine lv_aload_n hx hb (kn_dec tX1_readClause 34 rfl) rfl (lv_at hl 0 rfl) ?_
  refine kw_getl hx hb hts inX1 hown hK I 0 rfl rfl 0 (by decide) rfl (hts _ q1_56) (kn_dec tX1_readClause 35 rfl) e_g_0 ?_
  refine lv_aload_n hx hb (kn_dec tX1_readClause 36 rfl) rfl (lv_at hl 0 rfl) ?_
  refine kw_getl hx hb hts inX1 hown hK I 0 rfl rfl 0 (by decide) rfl (hts _ q1_56) (kn_dec tX1_readClause 37 rfl) e_g_0 ?_
  refine kw_geti hx hb hts inX2 hown hK I 1 rfl rfl 2 (by decide) rfl (hts _ q1_41) (kn_dec tX1_readClause 38 rfl) ?_
  refine lv_iconst (v := (4)) hx hb (kn_dec tX1_readClause 39 rfl) (by decide) ?_
  refine kw_callv (wc := [(kReader, ad_r, _), (kTin, ad_t, _)]) (wr := [(kHillReader, ad_g, _), (kHill, ad_h, _)]) I hA [1, 2] [0, 3] rfl rfl (by decide) (by decide) (kn_runV (As := [.int _, .int _]) S0 hK hZ hA I ((ctX2_failAt e_r_0 h).met _) (kn_cwV 2 hts q2_234 q2_235 q2_236 q1_3 q2_237 rfl rfl (by decide +kernel) ⟨(Nat.le_of_ble_eq_true rfl), (Nat.le_of_ble_eq_true rfl)⟩) [1, 2] rfl (by decide) 1 rfl rfl rfl rfl hl.1 rfl (Nat.le_of_ble_eq_true rfl) (kn_dec tX1_readClause 40 rfl) ⟨(Nat.le_of_ble_eq_true rfl), (Nat.le_of_ble_eq_true rfl)⟩) (fun u2 H locs h I => ?_)
  have I : kn_I D tc (kn_A w0 s.heap.size) s.heap [(kHillReader, ad_g, _), (kReader, ad_r, _), (kTin, ad_t, _), (kHill, ad_h, _)] _ _ := I.sub [0, 2, 3, 1] (by decide) rfl
  refine lv_goto (tgt := 106) hx hb (kn_dec tX1_readClause 41 rfl) (by decide) ?_
  exact kw_vret hx hb hr hlocks I (u2, v_h) rfl h (kn_dec tX1_readClause 52 rfl)
def PX1_readClause_b57 (v_g : OV) (v_t : OV)  (post : OV → OV → Prop) (t0 : Int32) (t1 : Int32) (y3 : Int32) (v_r : OV) (v_h : OV) : Prop := ((¬ t0 = t1 → PX1_readClause_b68 v_g v_t post v_r v_h) ∧ (t0 = t1 → (PX1_isFull v_h y3 (fun r2 => ((r2 = ((0 : Int32)) → (PX2_wordSize v_r v_t (fun r5 => (PX2_pass v_r v_t r5 (fun v_r7 => (PX1_readNumbers v_g v_r7 v_t v_h y3 (fun v_r9 v_h10 => post v_r9 v_h10))))))) ∧ (¬ r2 = ((0 : Int32)) → PX1_readClause_b68 v_g v_t post v_r v_h))))))
set_option maxRecDepth 100000 in
set_option maxHeartbeats 1000000 in
theorem wX1_readClause_b57 {v_g : OV} {v_t : OV}  {post : OV → OV → Prop} {ad_g : Nat → Nat} {ad_r : Nat → Nat} {ad_t : Nat → Nat} {ad_h : Nat → Nat} (X : kn_X p s m args meth c cX1_readClause 4 none RX1 kn_all D tc Z (kn_A w0 s.heap.size)) (e_r_0 : ad_r (0 + 1) = ad_t (0 + 1)) (e_g_0 : ad_g (0 + 1) = ad_r 0)   : ∀ (H : Heap) (locs : List Loc) (ls : Array Slot) (t0 : Int32) (t1 : Int32) (y3 : Int32) (v_r : OV) (v_h : OV), (hz_t0 : t0 = 0 ∨ t0 = 1) → (hz_t1 : t1 = 0 ∨ t1 = 1) → kn_I D tc (kn_A w0 s.heap.size) s.heap [(kHillReader, ad_g, v_g), (kReader, ad_r, v_r), (kTin, ad_t, v_t), (kHill, ad_h, v_h)] H locs → lv_has ls 4 [(0, .ref (ad_g 0)), (1, .ref (ad_h 0)), (3, .int y3)] → PX1_readClause_b57 v_g v_t post t0 t1 y3 v_r v_h → W p l e rmX1_readClause s m args below meth c H locs 0 0 (kn_Qv D tc w0 (fun (u : OV × OV) => [(kHillReader, ad_g, v_g), (kReader, ad_r, u.1), (kTin, ad_t, v_t), (kHill, ad_h, u.2)]) (fun (u : OV × OV) => post u.1 u.2) below args s 0 0) (F0 m 57 ls [.int t1, .int t0]) := by
  obtain ⟨S0, hr, hlocks, hK, hZ, hA⟩ := id X
  obtain ⟨hx, hb, hml, hown, hts⟩ := id S0
  intro H locs ls t0 t1 y3 v_r v_h hz_t0 hz_t1 I hl h
  unfold PX1_readClause_b57 at h
  refine lv_icmp_ne (tgt := 68) hx hb (kn_dec tX1_readClause 29 rfl) (by decide) (fun c1 => ?_) (fun c1 => ?_)
  · have h := h.1 c1
    exact wX1_readClause_b68 X e_r_0 e_g_0 _ _ _ _ _  I (lv_sub hl [0] rfl) h
  · have h := h.2 c1
    refine lv_aload_n hx hb (kn_dec tX1_readClause 30 rfl) rfl (lv_at hl 1 rfl) ?_
    refine lv_iload_n hx hb (kn_dec tX1_readClause 31 rfl) rfl (lv_at hl 2 rfl) ?_
    refine kw_calli (wc := [(kHill, ad_h, _)]) (wr := [(kHillReader, ad_g, _), (kReader, ad_r, _), (kTin, ad_t, _)]) I hA [3] [0, 1, 2] rfl rfl (by decide) (by decide) (kn_runS (As := [.ref (ad_h 0), .int _]) S0 hK hZ hA I ((ctX1_isFull h).met _) (kn_cwS 2 hts q2_238 q2_239 q1_2 q3_0 rfl rfl (by decide +kernel) ⟨(Nat.le_of_ble_eq_true rfl), (Nat.le_of_ble_eq_true rfl)⟩) [3] rfl (by decide) rfl hl.1 rfl (Nat.le_of_ble_eq_true rfl) (kn_dec tX1_readClause 32 rfl) ⟨(Nat.le_of_ble_eq_true rfl), (Nat.le_of_ble_eq_true rfl)⟩) (fun r2 u3 H locs h I => ?_)
    obtain ⟨hz_r2, h⟩ := h
    have I : kn_I D tc (kn_A w0 s.heap.size) s.heap [(kHillReader, ad_g, _), (kReader, ad_r, _), (kTin, ad_t, _), (kHill, ad_h, _)] _ _ := I
    refine lv_if_eq (tgt := 86) hx hb (kn_dec tX1_readClause 33 rfl) (by decide) (fun c4 => ?_) (fun c4 => ?_)
    · have h := h.1 c4
      refine lv_aload_n hx hb (kn_dec tX1_readClause 42 rfl) rfl (lv_at hl 0 rfl) ?_
      refine kw_getl hx hb hts inX1 hown hK I 0 rfl rfl 0 (by decide) rfl (hts _ q1_56) (kn_dec tX1_readClause 43 rfl) e_g_0 ?_
      refine lv_aload_n hx hb (kn_dec tX1_readClause 44 rfl) rfl (lv_at hl 0 rfl) ?_
      refine kw_getl hx hb hts inX1 hown hK I 0 rfl rfl 0 (by decide) rfl (hts _ q1_56) (kn_dec tX1_readClause 45 rfl) e_g_0 ?_
      refine kw_calli (wc := [(kReader, ad_r, _), (kTin, ad_t, _)]) (wr := [(kHillReader, ad_g, _), (kHill, ad_h, _)]) I hA [1, 2] [0, 3] rfl rfl (by decide) (by decide) (kn_runV (As := []) S0 hK hZ hA I ((ctX2_wordSize e_r_0 h).met _) (kn_cwV 0 hts q3_1 q2_179 q2_180 q1_3 q2_181 rfl rfl (by decide +kernel) ⟨(Nat.le_of_ble_eq_true rfl), (Nat.le_of_ble_eq_true rfl)⟩) [1, 2] rfl (by decide) 1 rfl rfl rfl rfl hl.1 rfl (Nat.le_of_ble_eq_true rfl) (kn_dec tX1_readClause 46 rfl) ⟨(Nat.le_of_ble_eq_true rfl), (Nat.le_of_ble_eq_true rfl)⟩) (fun r5 u6 H locs h I => ?_)
      have I : kn_I D tc (kn_A w0 s.heap.size) s.heap [(kHillReader, ad_g, _), (kReader, ad_r, _), (kTin, ad_t, _), (kHill, ad_h, _)] _ _ := I.sub [0, 2, 3, 1] (by decide) rfl
      refine kw_callv (wc := [(kReader, ad_r, _), (kTin, ad_t, _)]) (wr := [(kHillReader, ad_g, _), (kHill, ad_h, _)]) I hA [1, 2] [0, 3] rfl rfl (by decide) (by decide) (kn_runV (As := [.int _]) S0 hK hZ hA I ((ctX2_pass e_r_0 h).met _) (kn_cwV 1 hts q3_2 q3_3 q3_4 q1_3 q3_5 rfl rfl (by decide +kernel) ⟨(Nat.le_of_ble_eq_true rfl), (Nat.le_of_ble_eq_true rfl)⟩) [1, 2] rfl (by decide) 1 rfl rfl rfl rfl hl.1 rfl (Nat.le_of_ble_eq_true rfl) (kn_dec tX1_readClause 47 rfl) ⟨(Nat.le_of_ble_eq_true rfl), (Nat.le_of_ble_eq_true rfl)⟩) (fun u8 H locs h I => ?_)
      have I : kn_I D tc (kn_A w0 s.heap.size) s.heap [(kHillReader, ad_g, _), (kReader, ad_r, _), (kTin, ad_t, _), (kHill, ad_h, _)] _ _ := I.sub [0, 2, 3, 1] (by decide) rfl
      refine lv_aload_n hx hb (kn_dec tX1_readClause 48 rfl) rfl (lv_at hl 0 rfl) ?_
      refine lv_aload_n hx hb (kn_dec tX1_readClause 49 rfl) rfl (lv_at hl 1 rfl) ?_
      refine lv_iload_n hx hb (kn_dec tX1_readClause 50 rfl) rfl (lv_at hl 2 rfl) ?_
      refine kw_callv (wc := [(kHillReader, ad_g, _), (kReader, ad_r, _), (kTin, ad_t, _), (kHill, ad_h, _)]) (wr := []) I hA [0, 1, 2, 3] [] rfl rfl (by decide) (by decide) (kn_runV (As := [.ref (ad_h 0), .int _]) S0 hK hZ hA I ((ctX1_readNumbers e_r_0 e_g_0 h).met _) (kn_cwV 2 hts q3_6 q3_8 q0_3 q1_2 q3_9 rfl rfl (by decide +kernel) ⟨(Nat.le_of_ble_eq_true rfl), (Nat.le_of_ble_eq_true rfl)⟩) [0, 1, 2, 3] rfl (by decide) 0 rfl rfl rfl rfl hl.1 rfl (Nat.le_of_ble_eq_true rfl) (kn_dec tX1_readClause 51 rfl) ⟨(Nat.le_of_ble_eq_true rfl), (Nat.le_of_ble_eq_true rfl)⟩) (fun u11 H locs h I => ?_)
      have I : kn_I D tc (kn_A w0 s.heap.size) s.heap [(kHillReader, ad_g, _), (kReader, ad_r, _), (kTin, ad_t, _), (kHill, ad_h, _)] _ _ := I
      exact kw_vret hx hb hr hlocks I (u11.1, u11.2) rfl h (kn_dec tX1_readClause 52 rfl)
    · have h := h.2 c4
      exact wX1_readClause_b68 X e_r_0 e_g_0 _ _ _ _ _  I (lv_sub hl [0] rfl) h
def PX1_readClause_b48 (v_g : OV) (v_t : OV)  (post : OV → OV → Prop) (t0 : Int32) (y2 : Int32) (y3 : Int32) (v_r : OV) (v_h : OV) : Prop := ((¬ y2 = ((0 : Int32)) → PX1_readClause_b57 v_g v_t post t0 ((0 : Int32)) y3 v_r v_h) ∧ (y2 = ((0 : Int32)) → PX1_readClause_b57 v_g v_t post t0 ((1 : Int32)) y3 v_r v_h))
set_option maxRecDepth 100000 in
set_option maxHeartbeats 1000000 in
theorem wX1_readClause_b48 {v_g : OV} {v_t : OV}  {post : OV → OV → Prop} {ad_g : Nat → Nat} {ad_r : Nat → Nat} {ad_t : Nat → Nat} {ad_h : Nat → Nat} (X : kn_X p s m args meth c cX1_readClause 4 none RX1 kn_all D tc Z (kn_A w0 s.heap.size)) (e_r_0 : ad_r (0 + 1) = ad_t (0 + 1)) (e_g_0 : ad_g (0 + 1) = ad_r 0)   : ∀ (H : Heap) (locs : List Loc) (ls : Array Slot) (t0 : Int32) (y2 : Int32) (y3 : Int32) (v_r : OV) (v_h : OV), (hz_t0 : t0 = 0 ∨ t0 = 1) → kn_I D tc (kn_A w0 s.heap.size) s.heap [(kHillReader, ad_g, v_g), (kReader, ad_r, v_r), (kTin, ad_t, v_t), (kHill, ad_h, v_h)] H locs → lv_has ls 4 [(0, .ref (ad_g 0)), (1, .ref (ad_h 0)), (2, .int y2), (3, .int y3)] → PX1_readClause_b48 v_g v_t post t0 y2 y3 v_r v_h → W p l e rmX1_readClause s m args below meth c H locs 0 0 (kn_Qv D tc w0 (fun (u : OV × OV) => [(kHillReader, ad_g, v_g), (kReader, ad_r, u.1), (kTin, ad_t, v_t), (kHill, ad_h, u.2)]) (fun (u : OV × OV) => post u.1 u.2) below args s 0 0) (F0 m 48 ls [.int t0]) := by
  obtain ⟨S0, hr, hlocks, hK, hZ, hA⟩ := id X
  obtain ⟨hx, hb, hml, hown, hts⟩ := id S0
  intro H locs ls t0 y2 y3 v_r v_h hz_t0 I hl h
  unfold PX1_readClause_b48 at h
  refine lv_iload_n hx hb (kn_dec tX1_readClause 24 rfl) rfl (lv_at hl 2 rfl) ?_
  refine lv_if_ne (tgt := 56) hx hb (kn_dec tX1_readClause 25 rfl) (by decide) (fun c1 => ?_) (fun c1 => ?_)
  · have h := h.1 c1
    refine lv_iconst (v := (0)) hx hb (kn_dec tX1_readClause 28 rfl) (by decide) ?_
    exact wX1_readClause_b57 X e_r_0 e_g_0 _ _ _ _ _ _ _ _ hz_t0 (Or.inl rfl) I (lv_sub hl [0, 1, 3] rfl) h
  · have h := h.2 c1
    refine lv_iconst (v := (1)) hx hb (kn_dec tX1_readClause 26 rfl) (by decide) ?_
    refine lv_goto (tgt := 57) hx hb (kn_dec tX1_readClause 27 rfl) (by decide) ?_
    exact wX1_readClause_b57 X e_r_0 e_g_0 _ _ _ _ _ _ _ _ hz_t0 (Or.inr rfl) I (lv_sub hl [0, 1, 3] rfl) h
def PX1_readClause  (v_g : OV) (v_r : OV) (v_t : OV) (v_h : OV) (a2 : Int32) (post : OV → OV → Prop) : Prop := (PX2_word v_r v_t 0 (fun r2 v_r1 => ((¬ r2 = ((-1 : Int32)) → ((((40 : Int32)) ≤ a2 → PX1_readClause_b68 v_g v_t post v_r1 v_h) ∧ (¬ ((40 : Int32)) ≤ a2 → ((¬ r2 = ((0 : Int32)) → PX1_readClause_b48 v_g v_t post ((0 : Int32)) a2 r2 v_r1 v_h) ∧ (r2 = ((0 : Int32)) → PX1_readClause_b48 v_g v_t post ((1 : Int32)) a2 r2 v_r1 v_h))))) ∧ (r2 = ((-1 : Int32)) → (PX2_failAt v_r1 v_t (v_r1.1 2) ((0 : Int32)) (fun v_r7 => post v_r7 v_h))))))
set_option maxRecDepth 100000 in
set_option maxHeartbeats 1000000 in
theorem ctX1_readClause {l : Launch} {D : va_G} {tc : Nat → ClassId} {Z : (Nat → Nat) × (Nat → Nat)}  {ad_g : Nat → Nat} {ad_r : Nat → Nat} {ad_t : Nat → Nat} {ad_h : Nat → Nat} {v_g : OV} {v_r : OV} {v_t : OV} {v_h : OV} {a2 : Int32} (e_r_0 : ad_r (0 + 1) = ad_t (0 + 1)) (e_g_0 : ad_g (0 + 1) = ad_r 0)   {post : OV → OV → Prop} (h : PX1_readClause  v_g v_r v_t v_h a2 post) : CTv l D tc Z yX1_readClause (Cond.code yX1_readClause cX1_readClause 4 none :: kn_all) rmX1_readClause 0 0 [.ref (ad_g 0), .ref (ad_h 0), .int a2] [(kHillReader, ad_g, v_g), (kReader, ad_r, v_r), (kTin, ad_t, v_t), (kHill, ad_h, v_h)] (fun (u : OV × OV) => [(kHillReader, ad_g, v_g), (kReader, ad_r, u.1), (kTin, ad_t, v_t), (kHill, ad_h, u.2)]) (fun (u : OV × OV) => post u.1 u.2) := by
  refine kn_ofv (cc := cX1_readClause) (nL := 4) (ret := none) (lv := [(0, .ref (ad_g 0)), (1, .ref (ad_h 0)), (2, .int a2)]) (by decide) (Nat.le_of_ble_eq_true rfl) rfl (fun p e s m below meth c ls X I hl _ => ?_)
  obtain ⟨S0, hr, hlocks, hK, hZ, hA⟩ := id X
  obtain ⟨hx, hb, hml, hown, hts⟩ := id S0
  unfold PX1_readClause at h
  refine lv_aload_n hx hb (kn_dec tX1_readClause 0 rfl) rfl (lv_at hl 0 rfl) ?_
  refine kw_getl hx hb hts inX1 hown hK I 0 rfl rfl 0 (by decide) rfl (hts _ q1_56) (kn_dec tX1_readClause 1 rfl) e_g_0 ?_
  refine va_ldcS hx hb hown (hZ.1 0 _ rfl).1 (kn_dec tX1_readClause 2 rfl) ?_
  refine kw_calli (wc := [(kReader, ad_r, _), (kTin, ad_t, _)]) (wr := [(kHillReader, ad_g, _), (kHill, ad_h, _)]) I hA [1, 2] [0, 3] rfl rfl (by decide) (by decide) (kn_runV (As := [.ref (Z.1 0)]) S0 hK hZ hA I ((ctX2_word e_r_0 h).met _) (kn_cwV 1 hts q2_170 q2_171 q2_172 q1_3 q2_173 rfl rfl (by decide +kernel) ⟨(Nat.le_of_ble_eq_true rfl), (Nat.le_of_ble_eq_true rfl)⟩) [1, 2] rfl (by decide) 1 rfl rfl rfl rfl hl.1 rfl (Nat.le_of_ble_eq_true rfl) (kn_dec tX1_readClause 3 rfl) ⟨(Nat.le_of_ble_eq_true rfl), (Nat.le_of_ble_eq_true rfl)⟩) (fun r2 u3 H locs h I => ?_)
  have I : kn_I D tc (kn_A _ s.heap.size) s.heap [(kHillReader, ad_g, _), (kReader, ad_r, _), (kTin, ad_t, _), (kHill, ad_h, _)] _ _ := I.sub [0, 2, 3, 1] (by decide) rfl
  refine lv_istore_n (lv' := [(3, .int _), (0, .ref (ad_g 0)), (1, .ref (ad_h 0)), (2, .int _)]) hx hb (kn_dec tX1_readClause 4 rfl) rfl hl (by decide) rfl (fun ls hl => ?_)
  refine lv_iload_n hx hb (kn_dec tX1_readClause 5 rfl) rfl (lv_at hl 0 rfl) ?_
  refine lv_iconst (v := (-1)) hx hb (kn_dec tX1_readClause 6 rfl) (by decide) ?_
  refine lv_icmp_ne (tgt := 33) hx hb (kn_dec tX1_readClause 7 rfl) (by decide) (fun c4 => ?_) (fun c4 => ?_)
  · have h := h.1 c4
    refine lv_iload_n hx hb (kn_dec tX1_readClause 16 rfl) rfl (lv_at hl 3 rfl) ?_
    refine lv_bipush (v := (40)) hx hb (kn_dec tX1_readClause 17 rfl) (by decide) ?_
    refine lv_icmp_ge (tgt := 68) hx hb (kn_dec tX1_readClause 18 rfl) (by decide) (fun c5 => ?_) (fun c5 => ?_)
    · have h := h.1 c5
      exact wX1_readClause_b68 X e_r_0 e_g_0 _ _ _ _ _  I (lv_sub hl [1] rfl) h
    · have h := h.2 c5
      refine lv_iload_n hx hb (kn_dec tX1_readClause 19 rfl) rfl (lv_at hl 0 rfl) ?_
      refine lv_if_ne (tgt := 47) hx hb (kn_dec tX1_readClause 20 rfl) (by decide) (fun c6 => ?_) (fun c6 => ?_)
      · have h := h.1 c6
        refine lv_iconst (v := (0)) hx hb (kn_dec tX1_readClause 23 rfl) (by decide) ?_
        exact wX1_readClause_b48 X e_r_0 e_g_0 _ _ _ _ _ _ _ _ (Or.inl rfl) I (lv_sub hl [1, 2, 3, 0] rfl) h
      · have h := h.2 c6
        refine lv_iconst (v := (1)) hx hb (kn_dec tX1_readClause 21 rfl) (by decide) ?_
        refine lv_goto (tgt := 48) hx hb (kn_dec tX1_readClause 22 rfl) (by decide) ?_
        exact wX1_readClause_b48 X e_r_0 e_g_0 _ _ _ _ _ _ _ _ (Or.inr rfl) I (lv_sub hl [1, 2, 3, 0] rfl) h
  · have h := h.2 c4
    refine lv_aload_n hx hb (kn_dec tX1_readClause 8 rfl) rfl (lv_at hl 1 rfl) ?_
    refine kw_getl hx hb hts inX1 hown hK I 0 rfl rfl 0 (by decide) rfl (hts _ q1_56) (kn_dec tX1_readClause 9 rfl) e_g_0 ?_
    refine lv_aload_n hx hb (kn_dec tX1_readClause 10 rfl) rfl (lv_at hl 1 rfl) ?_
    refine kw_getl hx hb hts inX1 hown hK I 0 rfl rfl 0 (by decide) rfl (hts _ q1_56) (kn_dec tX1_readClause 11 rfl) e_g_0 ?_
    refine kw_geti hx hb hts inX2 hown hK I 1 rfl rfl 2 (by decide) rfl (hts _ q1_41) (kn_dec tX1_readClause 12 rfl) ?_
    refine lv_iconst (v := (0)) hx hb (kn_dec tX1_readClause 13 rfl) (by decide) ?_
    refine kw_callv (wc := [(kReader, ad_r, _), (kTin, ad_t, _)]) (wr := [(kHillReader, ad_g, _), (kHill, ad_h, _)]) I hA [1, 2] [0, 3] rfl rfl (by decide) (by decide) (kn_runV (As := [.int _, .int _]) S0 hK hZ hA I ((ctX2_failAt e_r_0 h).met _) (kn_cwV 2 hts q2_234 q2_235 q2_236 q1_3 q2_237 rfl rfl (by decide +kernel) ⟨(Nat.le_of_ble_eq_true rfl), (Nat.le_of_ble_eq_true rfl)⟩) [1, 2] rfl (by decide) 1 rfl rfl rfl rfl hl.1 rfl (Nat.le_of_ble_eq_true rfl) (kn_dec tX1_readClause 14 rfl) ⟨(Nat.le_of_ble_eq_true rfl), (Nat.le_of_ble_eq_true rfl)⟩) (fun u8 H locs h I => ?_)
    have I : kn_I D tc (kn_A _ s.heap.size) s.heap [(kHillReader, ad_g, _), (kReader, ad_r, _), (kTin, ad_t, _), (kHill, ad_h, _)] _ _ := I.sub [0, 2, 3, 1] (by decide) rfl
    refine lv_goto (tgt := 106) hx hb (kn_dec tX1_readClause 15 rfl) (by decide) ?_
    exact kw_vret hx hb hr hlocks I (u8, v_h) rfl h (kn_dec tX1_readClause 52 rfl)

/-! X7_bestOf -/
abbrev rmX7_bestOf : Room := { frames := 0, cells := 0, slots := 0, locals := 0 }
def PX7_bestOf_b26 (v_w : OV) (K5 : Int32 → Int32 → Int32 → Int32 → Prop) (post : Int32 → Prop) (t0 : Int32) (y1 : Int32) (y2 : Int32) (y3 : Int32) (y4 : Int32) : Prop := ((t0 = ((0 : Int32)) → (∀ x2 : Int32, x2 = y4 + (1 : Int32) → K5 y1 y2 y3 x2)) ∧ (¬ t0 = ((0 : Int32)) → ((y3 = ((-1 : Int32)) → (∀ x4 : Int32, x4 = y4 + (1 : Int32) → K5 y1 y2 y4 x4)) ∧ (¬ y3 = ((-1 : Int32)) → (vp_in y4 10 ∧ (vp_in y3 10 ∧ (((lg_cmp (v_w.2.2 1 y4.toNatClampNeg) (v_w.2.2 1 y3.toNatClampNeg)) ≤ ((0 : Int32)) → (∀ x8 : Int32, x8 = y4 + (1 : Int32) → K5 y1 y2 y3 x8)) ∧ (¬ (lg_cmp (v_w.2.2 1 y4.toNatClampNeg) (v_w.2.2 1 y3.toNatClampNeg)) ≤ ((0 : Int32)) → (∀ x9 : Int32, x9 = y4 + (1 : Int32) → K5 y1 y2 y4 x9)))))))))
set_option maxRecDepth 100000 in
set_option maxHeartbeats 1000000 in
theorem wX7_bestOf_b26 {v_w : OV} {K5 : Int32 → Int32 → Int32 → Int32 → Prop} {post : Int32 → Prop} {ad_w : Nat → Nat} (X : kn_X p s m args meth c cX7_bestOf 6 (some .int) RX7 kn_all D tc Z (kn_A w0 s.heap.size))   (hK5 : ∀ (H : Heap) (locs : List Loc) (ls : Array Slot) (y1 : Int32) (y2 : Int32) (y3 : Int32) (y4 : Int32), kn_I D tc (kn_A w0 s.heap.size) s.heap [(kWalk, ad_w, v_w)] H locs → lv_has ls 6 [(0, .ref (ad_w 0)), (1, .int y1), (2, .int y2), (3, .int y3), (4, .int y4)] → K5 y1 y2 y3 y4 → W p l e rmX7_bestOf s m args below meth c H locs 0 0 (kn_Qi D tc w0 (fun (u : Unit) => [(kWalk, ad_w, v_w)]) (fun (r : Int32) (u : Unit) => post r) below args s 0 0) (F0 m 5 ls [])) : ∀ (H : Heap) (locs : List Loc) (ls : Array Slot) (t0 : Int32) (y1 : Int32) (y2 : Int32) (y3 : Int32) (y4 : Int32), (hz_t0 : t0 = 0 ∨ t0 = 1) → kn_I D tc (kn_A w0 s.heap.size) s.heap [(kWalk, ad_w, v_w)] H locs → lv_has ls 6 [(0, .ref (ad_w 0)), (1, .int y1), (2, .int y2), (3, .int y3), (4, .int y4)] → PX7_bestOf_b26 v_w K5 post t0 y1 y2 y3 y4 → W p l e rmX7_bestOf s m args below meth c H locs 0 0 (kn_Qi D tc w0 (fun (u : Unit) => [(kWalk, ad_w, v_w)]) (fun (r : Int32) (u : Unit) => post r) below args s 0 0) (F0 m 26 ls [.int t0]) := by
  obtain ⟨S0, hr, hlocks, hK, hZ, hA⟩ := id X
  obtain ⟨hx, hb, hml, hown, hts⟩ := id S0
  intro H locs ls t0 y1 y2 y3 y4 hz_t0 I hl h
  unfold PX7_bestOf_b26 at h
  refine lv_istore (lv' := [(5, .int _), (0, .ref (ad_w 0)), (1, .int _), (2, .int _), (3, .int _), (4, .int _)]) hx hb (kn_dec tX7_bestOf 17 rfl) hl (by decide) rfl (fun ls hl => ?_)
  refine lv_iload hx hb (kn_dec tX7_bestOf 18 rfl) (lv_at hl 0 rfl) ?_
  refine lv_if_eq (tgt := 58) hx hb (kn_dec tX7_bestOf 19 rfl) (by decide) (fun c1 => ?_) (fun c1 => ?_)
  · have h := h.1 c1
    refine kw_iinc (lvf := fun y => [(4, .int y), (5, .int _), (0, .ref (ad_w 0)), (1, .int _), (2, .int _), (3, .int _)]) (nv := (1)) hx hb (kn_dec tX7_bestOf 35 rfl) hl (k := 5) rfl (by decide) (by decide) (fun _ => rfl) (fun x2 ex2 ls hl => ?_)
    have h := h x2 ex2
    refine lv_goto (tgt := 5) hx hb (kn_dec tX7_bestOf 36 rfl) (by decide) ?_
    exact hK5 _ _ _ _ _ _ _  I (lv_sub hl [2, 3, 4, 5, 0] rfl) h
  · have h := h.2 c1
    refine lv_iload_n hx hb (kn_dec tX7_bestOf 20 rfl) rfl (lv_at hl 4 rfl) ?_
    refine lv_iconst (v := (-1)) hx hb (kn_dec tX7_bestOf 21 rfl) (by decide) ?_
    refine lv_icmp_eq (tgt := 55) hx hb (kn_dec tX7_bestOf 22 rfl) (by decide) (fun c3 => ?_) (fun c3 => ?_)
    · have h := h.1 c3
      refine lv_iload hx hb (kn_dec tX7_bestOf 33 rfl) (lv_at hl 5 rfl) ?_
      refine lv_istore_n (lv' := [(3, .int _), (5, .int _), (0, .ref (ad_w 0)), (1, .int _), (2, .int _), (4, .int _)]) hx hb (kn_dec tX7_bestOf 34 rfl) rfl hl (by decide) rfl (fun ls hl => ?_)
      refine kw_iinc (lvf := fun y => [(4, .int y), (3, .int _), (5, .int _), (0, .ref (ad_w 0)), (1, .int _), (2, .int _)]) (nv := (1)) hx hb (kn_dec tX7_bestOf 35 rfl) hl (k := 5) rfl (by decide) (by decide) (fun _ => rfl) (fun x4 ex4 ls hl => ?_)
      have h := h x4 ex4
      refine lv_goto (tgt := 5) hx hb (kn_dec tX7_bestOf 36 rfl) (by decide) ?_
      exact hK5 _ _ _ _ _ _ _  I (lv_sub hl [3, 4, 5, 1, 0] rfl) h
    · have h := h.2 c3
      refine lv_aload_n hx hb (kn_dec tX7_bestOf 23 rfl) rfl (lv_at hl 1 rfl) ?_
      refine kw_getl hx hb hts inX7 hown hK I 0 rfl rfl 1 (by decide) rfl (hts _ q2_74) (kn_dec tX7_bestOf 24 rfl) rfl ?_
      refine lv_iload hx hb (kn_dec tX7_bestOf 25 rfl) (lv_at hl 5 rfl) ?_
      obtain ⟨hs5, h⟩ := h
      refine kw_lald hx hb hK I 0 rfl 1 10 (List.mem_of_getElem? (i := 1) rfl) hs5 (kn_dec tX7_bestOf 26 rfl) ?_
      refine lv_aload_n hx hb (kn_dec tX7_bestOf 27 rfl) rfl (lv_at hl 1 rfl) ?_
      refine kw_getl hx hb hts inX7 hown hK I 0 rfl rfl 1 (by decide) rfl (hts _ q2_74) (kn_dec tX7_bestOf 28 rfl) rfl ?_
      refine lv_iload_n hx hb (kn_dec tX7_bestOf 29 rfl) rfl (lv_at hl 4 rfl) ?_
      obtain ⟨hs6, h⟩ := h
      refine kw_lald hx hb hK I 0 rfl 1 10 (List.mem_of_getElem? (i := 1) rfl) hs6 (kn_dec tX7_bestOf 30 rfl) ?_
      refine W.lcmp hx hb (kn_dec tX7_bestOf 31 rfl) ?_
      refine lv_if_le (tgt := 58) hx hb (kn_dec tX7_bestOf 32 rfl) (by decide) (fun c7 => ?_) (fun c7 => ?_)
      · have h := h.1 c7
        refine kw_iinc (lvf := fun y => [(4, .int y), (5, .int _), (0, .ref (ad_w 0)), (1, .int _), (2, .int _), (3, .int _)]) (nv := (1)) hx hb (kn_dec tX7_bestOf 35 rfl) hl (k := 5) rfl (by decide) (by decide) (fun _ => rfl) (fun x8 ex8 ls hl => ?_)
        have h := h x8 ex8
        refine lv_goto (tgt := 5) hx hb (kn_dec tX7_bestOf 36 rfl) (by decide) ?_
        exact hK5 _ _ _ _ _ _ _  I (lv_sub hl [2, 3, 4, 5, 0] rfl) h
      · have h := h.2 c7
        refine lv_iload hx hb (kn_dec tX7_bestOf 33 rfl) (lv_at hl 5 rfl) ?_
        refine lv_istore_n (lv' := [(3, .int _), (5, .int _), (0, .ref (ad_w 0)), (1, .int _), (2, .int _), (4, .int _)]) hx hb (kn_dec tX7_bestOf 34 rfl) rfl hl (by decide) rfl (fun ls hl => ?_)
        refine kw_iinc (lvf := fun y => [(4, .int y), (3, .int _), (5, .int _), (0, .ref (ad_w 0)), (1, .int _), (2, .int _)]) (nv := (1)) hx hb (kn_dec tX7_bestOf 35 rfl) hl (k := 5) rfl (by decide) (by decide) (fun _ => rfl) (fun x9 ex9 ls hl => ?_)
        have h := h x9 ex9
        refine lv_goto (tgt := 5) hx hb (kn_dec tX7_bestOf 36 rfl) (by decide) ?_
        exact hK5 _ _ _ _ _ _ _  I (lv_sub hl [3, 4, 5, 1, 0] rfl) h
def PX7_bestOf_L5 (v_w : OV)  (post : Int32 → Prop) : Nat → Int32 → Int32 → Int32 → Int32 → Prop
  | 0, _, _, _, _ => False
  | n + 1, y1, y2, y3, y4 => ((y2 ≤ y4 → post y3) ∧ (¬ y2 ≤ y4 → ((¬ ((y1 >>> (y4 &&& 31)) &&& ((1 : Int32))) = ((1 : Int32)) → PX7_bestOf_b26 v_w (PX7_bestOf_L5 v_w post n) post ((0 : Int32)) y1 y2 y3 y4) ∧ (((y1 >>> (y4 &&& 31)) &&& ((1 : Int32))) = ((1 : Int32)) → PX7_bestOf_b26 v_w (PX7_bestOf_L5 v_w post n) post ((1 : Int32)) y1 y2 y3 y4))))
set_option maxRecDepth 100000 in
set_option maxHeartbeats 1000000 in
theorem wX7_bestOf_L5 {v_w : OV}  {post : Int32 → Prop} {ad_w : Nat → Nat} (X : kn_X p s m args meth c cX7_bestOf 6 (some .int) RX7 kn_all D tc Z (kn_A w0 s.heap.size))    : ∀ n : Nat, ∀ (H : Heap) (locs : List Loc) (ls : Array Slot) (y1 : Int32) (y2 : Int32) (y3 : Int32) (y4 : Int32), kn_I D tc (kn_A w0 s.heap.size) s.heap [(kWalk, ad_w, v_w)] H locs → lv_has ls 6 [(0, .ref (ad_w 0)), (1, .int y1), (2, .int y2), (3, .int y3), (4, .int y4)] → PX7_bestOf_L5 v_w post n y1 y2 y3 y4 → W p l e rmX7_bestOf s m args below meth c H locs 0 0 (kn_Qi D tc w0 (fun (u : Unit) => [(kWalk, ad_w, v_w)]) (fun (r : Int32) (u : Unit) => post r) below args s 0 0) (F0 m 5 ls []) := by
  obtain ⟨S0, hr, hlocks, hK, hZ, hA⟩ := id X
  obtain ⟨hx, hb, hml, hown, hts⟩ := id S0
  intro n
  induction n with
  | zero =>
    intro H locs ls y1 y2 y3 y4 I hl h
    unfold PX7_bestOf_L5 at h
    exact h.elim
  | succ n ih =>
    intro H locs ls y1 y2 y3 y4 I hl h
    unfold PX7_bestOf_L5 at h
    refine lv_iload hx hb (kn_dec tX7_bestOf 4 rfl) (lv_at hl 4 rfl) ?_
    refine lv_iload_n hx hb (kn_dec tX7_bestOf 5 rfl) rfl (lv_at hl 2 rfl) ?_
    refine lv_icmp_ge (tgt := 64) hx hb (kn_dec tX7_bestOf 6 rfl) (by decide) (fun c1 => ?_) (fun c1 => ?_)
    · have h := h.1 c1
      refine lv_iload_n hx hb (kn_dec tX7_bestOf 37 rfl) rfl (lv_at hl 3 rfl) ?_
      exact kw_iret hx hb hr hlocks I () rfl h (kn_dec tX7_bestOf 38 rfl)
    · have h := h.2 c1
      refine lv_iload_n hx hb (kn_dec tX7_bestOf 7 rfl) rfl (lv_at hl 1 rfl) ?_
      refine lv_iload hx hb (kn_dec tX7_bestOf 8 rfl) (lv_at hl 4 rfl) ?_
      refine lv_ishr hx hb (kn_dec tX7_bestOf 9 rfl) ?_
      refine lv_iconst (v := (1)) hx hb (kn_dec tX7_bestOf 10 rfl) (by decide) ?_
      refine lv_iand hx hb (kn_dec tX7_bestOf 11 rfl) ?_
      refine lv_iconst (v := (1)) hx hb (kn_dec tX7_bestOf 12 rfl) (by decide) ?_
      refine lv_icmp_ne (tgt := 25) hx hb (kn_dec tX7_bestOf 13 rfl) (by decide) (fun c2 => ?_) (fun c2 => ?_)
      · have h := h.1 c2
        refine lv_iconst (v := (0)) hx hb (kn_dec tX7_bestOf 16 rfl) (by decide) ?_
        exact wX7_bestOf_b26 X ih _ _ _ _ _ _ _ _ (Or.inl rfl) I (lv_sub hl [0, 1, 2, 3, 4] rfl) h
      · have h := h.2 c2
        refine lv_iconst (v := (1)) hx hb (kn_dec tX7_bestOf 14 rfl) (by decide) ?_
        refine lv_goto (tgt := 26) hx hb (kn_dec tX7_bestOf 15 rfl) (by decide) ?_
        exact wX7_bestOf_b26 X ih _ _ _ _ _ _ _ _ (Or.inr rfl) I (lv_sub hl [0, 1, 2, 3, 4] rfl) h
def PX7_bestOf  (v_w : OV) (a1 : Int32) (a2 : Int32) (post : Int32 → Prop) : Prop := (∃ n1 : Nat, PX7_bestOf_L5 v_w post n1 a1 a2 ((-1 : Int32)) ((0 : Int32)))
set_option maxRecDepth 100000 in
set_option maxHeartbeats 1000000 in
theorem ctX7_bestOf {l : Launch} {D : va_G} {tc : Nat → ClassId} {Z : (Nat → Nat) × (Nat → Nat)}  {ad_w : Nat → Nat} {v_w : OV} {a1 : Int32} {a2 : Int32}    {post : Int32 → Prop} (h : PX7_bestOf  v_w a1 a2 post) : CTi l D tc Z yX7_bestOf (Cond.code yX7_bestOf cX7_bestOf 6 (some .int) :: kn_all) rmX7_bestOf 0 0 [.ref (ad_w 0), .int a1, .int a2] [(kWalk, ad_w, v_w)] (fun (u : Unit) => [(kWalk, ad_w, v_w)]) (fun (r : Int32) (u : Unit) => post r) := by
  refine kn_ofi (cc := cX7_bestOf) (nL := 6) (ret := (some .int)) (lv := [(0, .ref (ad_w 0)), (1, .int a1), (2, .int a2)]) (by decide) (Nat.le_of_ble_eq_true rfl) rfl (fun p e s m below meth c ls X I hl _ => ?_)
  obtain ⟨S0, hr, hlocks, hK, hZ, hA⟩ := id X
  obtain ⟨hx, hb, hml, hown, hts⟩ := id S0
  unfold PX7_bestOf at h
  refine lv_iconst (v := (-1)) hx hb (kn_dec tX7_bestOf 0 rfl) (by decide) ?_
  refine lv_istore_n (lv' := [(3, .int _), (0, .ref (ad_w 0)), (1, .int _), (2, .int _)]) hx hb (kn_dec tX7_bestOf 1 rfl) rfl hl (by decide) rfl (fun ls hl => ?_)
  refine lv_iconst (v := (0)) hx hb (kn_dec tX7_bestOf 2 rfl) (by decide) ?_
  refine lv_istore (lv' := [(4, .int _), (3, .int _), (0, .ref (ad_w 0)), (1, .int _), (2, .int _)]) hx hb (kn_dec tX7_bestOf 3 rfl) hl (by decide) rfl (fun ls hl => ?_)
  obtain ⟨n1, h⟩ := h
  exact wX7_bestOf_L5 X n1 _ _ _ _ _ _ _  I (lv_sub hl [2, 3, 4, 1, 0] rfl) h

/-! X7_leaveTraces -/
abbrev rmX7_leaveTraces : Room := { frames := 1, cells := 0, slots := 0, locals := 64 }
def PX7_leaveTraces_L2 (v_w : OV)  (post : OV → Prop) : Nat → Int32 → Int32 → OV → Prop
  | 0, _, _, _ => False
  | n + 1, y2, y3, v_s => (((v_w.1 3) ≤ y3 → post v_s) ∧ (¬ (v_w.1 3) ≤ y3 → (vp_in y3 10 ∧ (∀ x3 : Int32, x3 = (v_w.2.1 2 y3.toNatClampNeg) → (vp_in x3 10 ∧ (∀ x5 : Int32, x5 = (if ((v_s.2.1 3 x3.toNatClampNeg) + ((1 : Int32))) < ((99 : Int32)) then ((v_s.2.1 3 x3.toNatClampNeg) + ((1 : Int32))) else ((99 : Int32))) → (vp_in x3 10 ∧ (∀ v_s7 : OV, v_s7 = sa v_s 3 (upd (v_s.2.1 3) x3.toNatClampNeg x5) → (vp_in y2 4 ∧ (∀ x9 : Int32, x9 = ((v_s7.2.1 8 y2.toNatClampNeg) ||| (((1 : Int32)) <<< (x3 &&& 31))) → (vp_in y2 4 ∧ (∀ v_s11 : OV, v_s11 = sa v_s7 8 (upd (v_s7.2.1 8) y2.toNatClampNeg x9) → (∀ x12 : Int32, x12 = y3 + (1 : Int32) → PX7_leaveTraces_L2 v_w post n y2 x12 v_s11)))))))))))))
set_option maxRecDepth 100000 in
set_option maxHeartbeats 1000000 in
theorem wX7_leaveTraces_L2 {v_w : OV}  {post : OV → Prop} {ad_w : Nat → Nat} {ad_s : Nat → Nat} (X : kn_X p s m args meth c cX7_leaveTraces 5 none RX7 kn_all D tc Z (kn_A w0 s.heap.size))    : ∀ n : Nat, ∀ (H : Heap) (locs : List Loc) (ls : Array Slot) (y2 : Int32) (y3 : Int32) (v_s : OV), kn_I D tc (kn_A w0 s.heap.size) s.heap [(kWalk, ad_w, v_w), (kState, ad_s, v_s)] H locs → lv_has ls 5 [(0, .ref (ad_w 0)), (1, .ref (ad_s 0)), (2, .int y2), (3, .int y3)] → PX7_leaveTraces_L2 v_w post n y2 y3 v_s → W p l e rmX7_leaveTraces s m args below meth c H locs 0 0 (kn_Qv D tc w0 (fun (u : OV) => [(kWalk, ad_w, v_w), (kState, ad_s, u)]) (fun (u : OV) => post u) below args s 0 0) (F0 m 2 ls []) := by
  obtain ⟨S0, hr, hlocks, hK, hZ, hA⟩ := id X
  obtain ⟨hx, hb, hml, hown, hts⟩ := id S0
  intro n
  induction n with
  | zero =>
    intro H locs ls y2 y3 v_s I hl h
    unfold PX7_leaveTraces_L2 at h
    exact h.elim
  | succ n ih =>
    intro H locs ls y2 y3 v_s I hl h
    unfold PX7_leaveTraces_L2 at h
    refine lv_iload_n hx hb (kn_dec tX7_leaveTraces 2 rfl) rfl (lv_at hl 3 rfl) ?_
    refine lv_aload_n hx hb (kn_dec tX7_leaveTraces 3 rfl) rfl (lv_at hl 0 rfl) ?_
    refine kw_geti hx hb hts inX7 hown hK I 0 rfl rfl 3 (by decide) rfl (hts _ q2_77) (kn_dec tX7_leaveTraces 4 rfl) ?_
    refine lv_icmp_ge (tgt := 58) hx hb (kn_dec tX7_leaveTraces 5 rfl) (by decide) (fun c1 => ?_) (fun c1 => ?_)
    · have h := h.1 c1
      exact kw_vret hx hb hr hlocks I _ rfl h (kn_dec tX7_leaveTraces 35 rfl)
    · have h := h.2 c1
      refine lv_aload_n hx hb (kn_dec tX7_leaveTraces 6 rfl) rfl (lv_at hl 0 rfl) ?_
      refine kw_getl hx hb hts inX7 hown hK I 0 rfl rfl 2 (by decide) rfl (hts _ q2_75) (kn_dec tX7_leaveTraces 7 rfl) rfl ?_
      refine lv_iload_n hx hb (kn_dec tX7_leaveTraces 8 rfl) rfl (lv_at hl 3 rfl) ?_
      obtain ⟨hs2, h⟩ := h
      refine kw_iald hx hb hK I 0 rfl 2 10 (List.mem_of_getElem? (i := 2) rfl) hs2 (kn_dec tX7_leaveTraces 9 rfl) ?_
      refine lv_topi (fun x3 ex3 => ?_)
      have h := h x3 ex3
      refine lv_istore (lv' := [(4, .int _), (0, .ref (ad_w 0)), (1, .ref (ad_s 0)), (2, .int _), (3, .int _)]) hx hb (kn_dec tX7_leaveTraces 10 rfl) hl (by decide) rfl (fun ls hl => ?_)
      refine lv_aload_n hx hb (kn_dec tX7_leaveTraces 11 rfl) rfl (lv_at hl 2 rfl) ?_
      refine kw_getl hx hb hts inX6 hown hK I 1 rfl rfl 3 (by decide) rfl (hts _ q1_230) (kn_dec tX7_leaveTraces 12 rfl) rfl ?_
      refine lv_iload hx hb (kn_dec tX7_leaveTraces 13 rfl) (lv_at hl 0 rfl) ?_
      refine lv_bipush (v := (99)) hx hb (kn_dec tX7_leaveTraces 14 rfl) (by decide) ?_
      refine lv_aload_n hx hb (kn_dec tX7_leaveTraces 15 rfl) rfl (lv_at hl 2 rfl) ?_
      refine kw_getl hx hb hts inX6 hown hK I 1 rfl rfl 3 (by decide) rfl (hts _ q1_230) (kn_dec tX7_leaveTraces 16 rfl) rfl ?_
      refine lv_iload hx hb (kn_dec tX7_leaveTraces 17 rfl) (lv_at hl 0 rfl) ?_
      obtain ⟨hs4, h⟩ := h
      refine kw_iald hx hb hK I 1 rfl 3 10 (List.mem_of_getElem? (i := 0) rfl) hs4 (kn_dec tX7_leaveTraces 18 rfl) ?_
      refine lv_iconst (v := (1)) hx hb (kn_dec tX7_leaveTraces 19 rfl) (by decide) ?_
      refine lv_iadd hx hb (kn_dec tX7_leaveTraces 20 rfl) ?_
      refine va_mmin hx hb (hml.trans hl.1.symm) hown (hts _ q4_2) (hts _ q2_163) (hts _ q1_11) (hts _ q2_164) (Nat.le_of_ble_eq_true rfl) (Nat.le_of_ble_eq_true rfl) (Nat.le_of_ble_eq_true rfl) (Nat.le_of_ble_eq_true rfl) (kn_dec tX7_leaveTraces 21 rfl) ?_
      refine lv_topi (fun x5 ex5 => ?_)
      have h := h x5 ex5
      obtain ⟨hs6, h⟩ := h
      refine kw_iast hx hb hK I 1 rfl 3 10 (List.mem_of_getElem? (i := 0) rfl) ukState_3 hs6 (kn_dec tX7_leaveTraces 22 rfl) (fun v_s7 ev_s7 H locs I => ?_)
      have h := h v_s7 ev_s7
      have I : kn_I D tc (kn_A w0 s.heap.size) s.heap [(kWalk, ad_w, _), (kState, ad_s, _)] _ _ := I
      refine lv_aload_n hx hb (kn_dec tX7_leaveTraces 23 rfl) rfl (lv_at hl 2 rfl) ?_
      refine kw_getl hx hb hts inX6 hown hK I 1 rfl rfl 8 (by decide) rfl (hts _ q2_5) (kn_dec tX7_leaveTraces 24 rfl) rfl ?_
      refine lv_iload_n hx hb (kn_dec tX7_leaveTraces 25 rfl) rfl (lv_at hl 3 rfl) ?_
      refine lv_dup2_11 hx hb (kn_dec tX7_leaveTraces 26 rfl) rfl rfl ?_
      obtain ⟨hs8, h⟩ := h
      refine kw_iald hx hb hK I 1 rfl 8 4 (List.mem_of_getElem? (i := 5) rfl) hs8 (kn_dec tX7_leaveTraces 27 rfl) ?_
      refine lv_iconst (v := (1)) hx hb (kn_dec tX7_leaveTraces 28 rfl) (by decide) ?_
      refine lv_iload hx hb (kn_dec tX7_leaveTraces 29 rfl) (lv_at hl 0 rfl) ?_
      refine lv_ishl hx hb (kn_dec tX7_leaveTraces 30 rfl) ?_
      refine lv_ior hx hb (kn_dec tX7_leaveTraces 31 rfl) ?_
      refine lv_topi (fun x9 ex9 => ?_)
      have h := h x9 ex9
      obtain ⟨hs10, h⟩ := h
      refine kw_iast hx hb hK I 1 rfl 8 4 (List.mem_of_getElem? (i := 5) rfl) ukState_8 hs10 (kn_dec tX7_leaveTraces 32 rfl) (fun v_s11 ev_s11 H locs I => ?_)
      have h := h v_s11 ev_s11
      have I : kn_I D tc (kn_A w0 s.heap.size) s.heap [(kWalk, ad_w, _), (kState, ad_s, _)] _ _ := I
      refine kw_iinc (lvf := fun y => [(3, .int y), (4, .int _), (0, .ref (ad_w 0)), (1, .ref (ad_s 0)), (2, .int _)]) (nv := (1)) hx hb (kn_dec tX7_leaveTraces 33 rfl) hl (k := 4) rfl (by decide) (by decide) (fun _ => rfl) (fun x12 ex12 ls hl => ?_)
      have h := h x12 ex12
      refine lv_goto (tgt := 2) hx hb (kn_dec tX7_leaveTraces 34 rfl) (by decide) ?_
      exact ih _ _ _ _ _ _  I (lv_sub hl [2, 3, 4, 0] rfl) h
def PX7_leaveTraces  (v_w : OV) (v_s : OV) (a2 : Int32) (post : OV → Prop) : Prop := (∃ n1 : Nat, PX7_leaveTraces_L2 v_w post n1 a2 ((0 : Int32)) v_s)
set_option maxRecDepth 100000 in
set_option maxHeartbeats 1000000 in
theorem ctX7_leaveTraces {l : Launch} {D : va_G} {tc : Nat → ClassId} {Z : (Nat → Nat) × (Nat → Nat)}  {ad_w : Nat → Nat} {ad_s : Nat → Nat} {v_w : OV} {v_s : OV} {a2 : Int32}    {post : OV → Prop} (h : PX7_leaveTraces  v_w v_s a2 post) : CTv l D tc Z yX7_leaveTraces (Cond.code yX7_leaveTraces cX7_leaveTraces 5 none :: kn_all) rmX7_leaveTraces 0 0 [.ref (ad_w 0), .ref (ad_s 0), .int a2] [(kWalk, ad_w, v_w), (kState, ad_s, v_s)] (fun (u : OV) => [(kWalk, ad_w, v_w), (kState, ad_s, u)]) (fun (u : OV) => post u) := by
  refine kn_ofv (cc := cX7_leaveTraces) (nL := 5) (ret := none) (lv := [(0, .ref (ad_w 0)), (1, .ref (ad_s 0)), (2, .int a2)]) (by decide) (Nat.le_of_ble_eq_true rfl) rfl (fun p e s m below meth c ls X I hl _ => ?_)
  obtain ⟨S0, hr, hlocks, hK, hZ, hA⟩ := id X
  obtain ⟨hx, hb, hml, hown, hts⟩ := id S0
  unfold PX7_leaveTraces at h
  refine lv_iconst (v := (0)) hx hb (kn_dec tX7_leaveTraces 0 rfl) (by decide) ?_
  refine lv_istore_n (lv' := [(3, .int _), (0, .ref (ad_w 0)), (1, .ref (ad_s 0)), (2, .int _)]) hx hb (kn_dec tX7_leaveTraces 1 rfl) rfl hl (by decide) rfl (fun ls hl => ?_)
  obtain ⟨n1, h⟩ := h
  exact wX7_leaveTraces_L2 X n1 _ _ _ _ _ _  I (lv_sub hl [1, 2, 3, 0] rfl) h

/-! X7_swap -/
abbrev rmX7_swap : Room := { frames := 0, cells := 0, slots := 0, locals := 0 }
def PX7_swap_L5 (v_h : OV)  (post : OV → Prop) : Nat → Int32 → Int32 → Int32 → OV → Prop
  | 0, _, _, _, _ => False
  | n + 1, y2, y3, y4, v_s => (((v_h.1 9) ≤ y4 → ((y3 = ((-1 : Int32)) → post v_s) ∧ (¬ y3 = ((-1 : Int32)) → (vp_in y3 6 ∧ (vp_in y2 4 ∧ (((v_s.2.1 4 y3.toNatClampNeg) ≤ (v_s.2.1 5 y2.toNatClampNeg) → post v_s) ∧ (¬ (v_s.2.1 4 y3.toNatClampNeg) ≤ (v_s.2.1 5 y2.toNatClampNeg) → (vp_in y2 4 ∧ (∀ x7 : Int32, x7 = (v_s.2.1 5 y2.toNatClampNeg) → (vp_in y3 6 ∧ (∀ x9 : Int32, x9 = (v_s.2.1 4 y3.toNatClampNeg) → (vp_in y2 4 ∧ (∀ v_s11 : OV, v_s11 = sa v_s 5 (upd (v_s.2.1 5) y2.toNatClampNeg x9) → (vp_in y3 6 ∧ (∀ v_s13 : OV, v_s13 = sa v_s11 4 (upd (v_s11.2.1 4) y3.toNatClampNeg x7) → post v_s13))))))))))))))) ∧ (¬ (v_h.1 9) ≤ y4 → ((y3 = ((-1 : Int32)) → (∀ x15 : Int32, x15 = y4 + (1 : Int32) → PX7_swap_L5 v_h post n y2 y4 x15 v_s)) ∧ (¬ y3 = ((-1 : Int32)) → (vp_in y4 6 ∧ (vp_in y3 6 ∧ (((v_s.2.1 4 y4.toNatClampNeg) ≤ (v_s.2.1 4 y3.toNatClampNeg) → (∀ x19 : Int32, x19 = y4 + (1 : Int32) → PX7_swap_L5 v_h post n y2 y3 x19 v_s)) ∧ (¬ (v_s.2.1 4 y4.toNatClampNeg) ≤ (v_s.2.1 4 y3.toNatClampNeg) → (∀ x20 : Int32, x20 = y4 + (1 : Int32) → PX7_swap_L5 v_h post n y2 y4 x20 v_s)))))))))
set_option maxRecDepth 100000 in
set_option maxHeartbeats 1000000 in
theorem wX7_swap_L5 {v_h : OV}  {post : OV → Prop} {ad_h : Nat → Nat} {ad_s : Nat → Nat} (X : kn_X p s m args meth c cX7_swap 5 none RX7 kn_all D tc Z (kn_A w0 s.heap.size))    : ∀ n : Nat, ∀ (H : Heap) (locs : List Loc) (ls : Array Slot) (y2 : Int32) (y3 : Int32) (y4 : Int32) (v_s : OV), kn_I D tc (kn_A w0 s.heap.size) s.heap [(kHill, ad_h, v_h), (kState, ad_s, v_s)] H locs → lv_has ls 5 [(0, .ref (ad_h 0)), (1, .ref (ad_s 0)), (2, .int y2), (3, .int y3), (4, .int y4)] → PX7_swap_L5 v_h post n y2 y3 y4 v_s → W p l e rmX7_swap s m args below meth c H locs 0 0 (kn_Qv D tc w0 (fun (u : OV) => [(kHill, ad_h, v_h), (kState, ad_s, u)]) (fun (u : OV) => post u) below args s 0 0) (F0 m 5 ls []) := by
  obtain ⟨S0, hr, hlocks, hK, hZ, hA⟩ := id X
  obtain ⟨hx, hb, hml, hown, hts⟩ := id S0
  intro n
  induction n with
  | zero =>
    intro H locs ls y2 y3 y4 v_s I hl h
    unfold PX7_swap_L5 at h
    exact h.elim
  | succ n ih =>
    intro H locs ls y2 y3 y4 v_s I hl h
    unfold PX7_swap_L5 at h
    refine lv_iload hx hb (kn_dec tX7_swap 4 rfl) (lv_at hl 4 rfl) ?_
    refine lv_aload_n hx hb (kn_dec tX7_swap 5 rfl) rfl (lv_at hl 0 rfl) ?_
    refine kw_geti hx hb hts inX0 hown hK I 0 rfl rfl 9 (by decide) rfl (hts _ q1_149) (kn_dec tX7_swap 6 rfl) ?_
    refine lv_icmp_ge (tgt := 44) hx hb (kn_dec tX7_swap 7 rfl) (by decide) (fun c1 => ?_) (fun c1 => ?_)
    · have h := h.1 c1
      refine lv_iload_n hx hb (kn_dec tX7_swap 24 rfl) rfl (lv_at hl 3 rfl) ?_
      refine lv_iconst (v := (-1)) hx hb (kn_dec tX7_swap 25 rfl) (by decide) ?_
      refine lv_icmp_eq (tgt := 92) hx hb (kn_dec tX7_swap 26 rfl) (by decide) (fun c2 => ?_) (fun c2 => ?_)
      · have h := h.1 c2
        exact kw_vret hx hb hr hlocks I _ rfl h (kn_dec tX7_swap 54 rfl)
      · have h := h.2 c2
        refine lv_aload_n hx hb (kn_dec tX7_swap 27 rfl) rfl (lv_at hl 1 rfl) ?_
        refine kw_getl hx hb hts inX6 hown hK I 1 rfl rfl 4 (by decide) rfl (hts _ q1_233) (kn_dec tX7_swap 28 rfl) rfl ?_
        refine lv_iload_n hx hb (kn_dec tX7_swap 29 rfl) rfl (lv_at hl 3 rfl) ?_
        obtain ⟨hs3, h⟩ := h
        refine kw_iald hx hb hK I 1 rfl 4 6 (List.mem_of_getElem? (i := 1) rfl) hs3 (kn_dec tX7_swap 30 rfl) ?_
        refine lv_aload_n hx hb (kn_dec tX7_swap 31 rfl) rfl (lv_at hl 1 rfl) ?_
        refine kw_getl hx hb hts inX6 hown hK I 1 rfl rfl 5 (by decide) rfl (hts _ q1_236) (kn_dec tX7_swap 32 rfl) rfl ?_
        refine lv_iload_n hx hb (kn_dec tX7_swap 33 rfl) rfl (lv_at hl 2 rfl) ?_
        obtain ⟨hs4, h⟩ := h
        refine kw_iald hx hb hK I 1 rfl 5 4 (List.mem_of_getElem? (i := 2) rfl) hs4 (kn_dec tX7_swap 34 rfl) ?_
        refine lv_icmp_le (tgt := 92) hx hb (kn_dec tX7_swap 35 rfl) (by decide) (fun c5 => ?_) (fun c5 => ?_)
        · have h := h.1 c5
          exact kw_vret hx hb hr hlocks I _ rfl h (kn_dec tX7_swap 54 rfl)
        · have h := h.2 c5
          refine lv_aload_n hx hb (kn_dec tX7_swap 36 rfl) rfl (lv_at hl 1 rfl) ?_
          refine kw_getl hx hb hts inX6 hown hK I 1 rfl rfl 5 (by decide) rfl (hts _ q1_236) (kn_dec tX7_swap 37 rfl) rfl ?_
          refine lv_iload_n hx hb (kn_dec tX7_swap 38 rfl) rfl (lv_at hl 2 rfl) ?_
          obtain ⟨hs6, h⟩ := h
          refine kw_iald hx hb hK I 1 rfl 5 4 (List.mem_of_getElem? (i := 2) rfl) hs6 (kn_dec tX7_swap 39 rfl) ?_
          refine lv_topi (fun x7 ex7 => ?_)
          have h := h x7 ex7
          refine lv_istore (lv' := [(4, .int _), (0, .ref (ad_h 0)), (1, .ref (ad_s 0)), (2, .int _), (3, .int _)]) hx hb (kn_dec tX7_swap 40 rfl) hl (by decide) rfl (fun ls hl => ?_)
          refine lv_aload_n hx hb (kn_dec tX7_swap 41 rfl) rfl (lv_at hl 2 rfl) ?_
          refine kw_getl hx hb hts inX6 hown hK I 1 rfl rfl 5 (by decide) rfl (hts _ q1_236) (kn_dec tX7_swap 42 rfl) rfl ?_
          refine lv_iload_n hx hb (kn_dec tX7_swap 43 rfl) rfl (lv_at hl 3 rfl) ?_
          refine lv_aload_n hx hb (kn_dec tX7_swap 44 rfl) rfl (lv_at hl 2 rfl) ?_
          refine kw_getl hx hb hts inX6 hown hK I 1 rfl rfl 4 (by decide) rfl (hts _ q1_233) (kn_dec tX7_swap 45 rfl) rfl ?_
          refine lv_iload_n hx hb (kn_dec tX7_swap 46 rfl) rfl (lv_at hl 4 rfl) ?_
          obtain ⟨hs8, h⟩ := h
          refine kw_iald hx hb hK I 1 rfl 4 6 (List.mem_of_getElem? (i := 1) rfl) hs8 (kn_dec tX7_swap 47 rfl) ?_
          refine lv_topi (fun x9 ex9 => ?_)
          have h := h x9 ex9
          obtain ⟨hs10, h⟩ := h
          refine kw_iast hx hb hK I 1 rfl 5 4 (List.mem_of_getElem? (i := 2) rfl) ukState_5 hs10 (kn_dec tX7_swap 48 rfl) (fun v_s11 ev_s11 H locs I => ?_)
          have h := h v_s11 ev_s11
          have I : kn_I D tc (kn_A w0 s.heap.size) s.heap [(kHill, ad_h, _), (kState, ad_s, _)] _ _ := I
          refine lv_aload_n hx hb (kn_dec tX7_swap 49 rfl) rfl (lv_at hl 2 rfl) ?_
          refine kw_getl hx hb hts inX6 hown hK I 1 rfl rfl 4 (by decide) rfl (hts _ q1_233) (kn_dec tX7_swap 50 rfl) rfl ?_
          refine lv_iload_n hx hb (kn_dec tX7_swap 51 rfl) rfl (lv_at hl 4 rfl) ?_
          refine lv_iload hx hb (kn_dec tX7_swap 52 rfl) (lv_at hl 0 rfl) ?_
          obtain ⟨hs12, h⟩ := h
          refine kw_iast hx hb hK I 1 rfl 4 6 (List.mem_of_getElem? (i := 1) rfl) ukState_4 hs12 (kn_dec tX7_swap 53 rfl) (fun v_s13 ev_s13 H locs I => ?_)
          have h := h v_s13 ev_s13
          have I : kn_I D tc (kn_A w0 s.heap.size) s.heap [(kHill, ad_h, _), (kState, ad_s, _)] _ _ := I
          exact kw_vret hx hb hr hlocks I _ rfl h (kn_dec tX7_swap 54 rfl)
    · have h := h.2 c1
      refine lv_iload_n hx hb (kn_dec tX7_swap 8 rfl) rfl (lv_at hl 3 rfl) ?_
      refine lv_iconst (v := (-1)) hx hb (kn_dec tX7_swap 9 rfl) (by decide) ?_
      refine lv_icmp_eq (tgt := 35) hx hb (kn_dec tX7_swap 10 rfl) (by decide) (fun c14 => ?_) (fun c14 => ?_)
      · have h := h.1 c14
        refine lv_iload hx hb (kn_dec tX7_swap 20 rfl) (lv_at hl 4 rfl) ?_
        refine lv_istore_n (lv' := [(3, .int _), (0, .ref (ad_h 0)), (1, .ref (ad_s 0)), (2, .int _), (4, .int _)]) hx hb (kn_dec tX7_swap 21 rfl) rfl hl (by decide) rfl (fun ls hl => ?_)
        refine kw_iinc (lvf := fun y => [(4, .int y), (3, .int _), (0, .ref (ad_h 0)), (1, .ref (ad_s 0)), (2, .int _)]) (nv := (1)) hx hb (kn_dec tX7_swap 22 rfl) hl (k := 4) rfl (by decide) (by decide) (fun _ => rfl) (fun x15 ex15 ls hl => ?_)
        have h := h x15 ex15
        refine lv_goto (tgt := 5) hx hb (kn_dec tX7_swap 23 rfl) (by decide) ?_
        exact ih _ _ _ _ _ _ _  I (lv_sub hl [2, 3, 4, 1, 0] rfl) h
      · have h := h.2 c14
        refine lv_aload_n hx hb (kn_dec tX7_swap 11 rfl) rfl (lv_at hl 1 rfl) ?_
        refine kw_getl hx hb hts inX6 hown hK I 1 rfl rfl 4 (by decide) rfl (hts _ q1_233) (kn_dec tX7_swap 12 rfl) rfl ?_
        refine lv_iload hx hb (kn_dec tX7_swap 13 rfl) (lv_at hl 4 rfl) ?_
        obtain ⟨hs16, h⟩ := h
        refine kw_iald hx hb hK I 1 rfl 4 6 (List.mem_of_getElem? (i := 1) rfl) hs16 (kn_dec tX7_swap 14 rfl) ?_
        refine lv_aload_n hx hb (kn_dec tX7_swap 15 rfl) rfl (lv_at hl 1 rfl) ?_
        refine kw_getl hx hb hts inX6 hown hK I 1 rfl rfl 4 (by decide) rfl (hts _ q1_233) (kn_dec tX7_swap 16 rfl) rfl ?_
        refine lv_iload_n hx hb (kn_dec tX7_swap 17 rfl) rfl (lv_at hl 3 rfl) ?_
        obtain ⟨hs17, h⟩ := h
        refine kw_iald hx hb hK I 1 rfl 4 6 (List.mem_of_getElem? (i := 1) rfl) hs17 (kn_dec tX7_swap 18 rfl) ?_
        refine lv_icmp_le (tgt := 38) hx hb (kn_dec tX7_swap 19 rfl) (by decide) (fun c18 => ?_) (fun c18 => ?_)
        · have h := h.1 c18
          refine kw_iinc (lvf := fun y => [(4, .int y), (0, .ref (ad_h 0)), (1, .ref (ad_s 0)), (2, .int _), (3, .int _)]) (nv := (1)) hx hb (kn_dec tX7_swap 22 rfl) hl (k := 4) rfl (by decide) (by decide) (fun _ => rfl) (fun x19 ex19 ls hl => ?_)
          have h := h x19 ex19
          refine lv_goto (tgt := 5) hx hb (kn_dec tX7_swap 23 rfl) (by decide) ?_
          exact ih _ _ _ _ _ _ _  I (lv_sub hl [1, 2, 3, 4, 0] rfl) h
        · have h := h.2 c18
          refine lv_iload hx hb (kn_dec tX7_swap 20 rfl) (lv_at hl 4 rfl) ?_
          refine lv_istore_n (lv' := [(3, .int _), (0, .ref (ad_h 0)), (1, .ref (ad_s 0)), (2, .int _), (4, .int _)]) hx hb (kn_dec tX7_swap 21 rfl) rfl hl (by decide) rfl (fun ls hl => ?_)
          refine kw_iinc (lvf := fun y => [(4, .int y), (3, .int _), (0, .ref (ad_h 0)), (1, .ref (ad_s 0)), (2, .int _)]) (nv := (1)) hx hb (kn_dec tX7_swap 22 rfl) hl (k := 4) rfl (by decide) (by decide) (fun _ => rfl) (fun x20 ex20 ls hl => ?_)
          have h := h x20 ex20
          refine lv_goto (tgt := 5) hx hb (kn_dec tX7_swap 23 rfl) (by decide) ?_
          exact ih _ _ _ _ _ _ _  I (lv_sub hl [2, 3, 4, 1, 0] rfl) h
def PX7_swap  (v_h : OV) (v_s : OV) (a2 : Int32) (post : OV → Prop) : Prop := (∃ n1 : Nat, PX7_swap_L5 v_h post n1 a2 ((-1 : Int32)) ((0 : Int32)) v_s)
set_option maxRecDepth 100000 in
set_option maxHeartbeats 1000000 in
theorem ctX7_swap {l : Launch} {D : va_G} {tc : Nat → ClassId} {Z : (Nat → Nat) × (Nat → Nat)}  {ad_h : Nat → Nat} {ad_s : Nat → Nat} {v_h : OV} {v_s : OV} {a2 : Int32}    {post : OV → Prop} (h : PX7_swap  v_h v_s a2 post) : CTv l D tc Z yX7_swap (Cond.code yX7_swap cX7_swap 5 none :: kn_all) rmX7_swap 0 0 [.ref (ad_h 0), .ref (ad_s 0), .int a2] [(kHill, ad_h, v_h), (kState, ad_s, v_s)] (fun (u : OV) => [(kHill, ad_h, v_h), (kState, ad_s, u)]) (fun (u : OV) => post u) := by
  refine kn_ofv (cc := cX7_swap) (nL := 5) (ret := none) (lv := [(0, .ref (ad_h 0)), (1, .ref (ad_s 0)), (2, .int a2)]) (by decide) (Nat.le_of_ble_eq_true rfl) rfl (fun p e s m below meth c ls X I hl _ => ?_)
  obtain ⟨S0, hr, hlocks, hK, hZ, hA⟩ := id X
  obtain ⟨hx, hb, hml, hown, hts⟩ := id S0
  unfold PX7_swap at h
  refine lv_iconst (v := (-1)) hx hb (kn_dec tX7_swap 0 rfl) (by decide) ?_
  refine lv_istore_n (lv' := [(3, .int _), (0, .ref (ad_h 0)), (1, .ref (ad_s 0)), (2, .int _)]) hx hb (kn_dec tX7_swap 1 rfl) rfl hl (by decide) rfl (fun ls hl => ?_)
  refine lv_iconst (v := (0)) hx hb (kn_dec tX7_swap 2 rfl) (by decide) ?_
  refine lv_istore (lv' := [(4, .int _), (3, .int _), (0, .ref (ad_h 0)), (1, .ref (ad_s 0)), (2, .int _)]) hx hb (kn_dec tX7_swap 3 rfl) hl (by decide) rfl (fun ls hl => ?_)
  obtain ⟨n1, h⟩ := h
  exact wX7_swap_L5 X n1 _ _ _ _ _ _ _  I (lv_sub hl [2, 3, 4, 1, 0] rfl) h

/-! X7_putBack -/
abbrev rmX7_putBack : Room := { frames := 0, cells := 0, slots := 0, locals := 0 }
def PX7_putBack_b31 (v_h : OV)  (post : OV → Prop) (y2 : Int32) (v_s : OV) : Prop := ((¬ y2 = ((2 : Int32)) → post v_s) ∧ (y2 = ((2 : Int32)) → (((v_s.1 2) ≤ ((0 : Int32)) → post v_s) ∧ (¬ (v_s.1 2) ≤ ((0 : Int32)) → (∀ x3 : Int32, x3 = ((v_s.1 2) - ((1 : Int32))) → (∀ v_s4 : OV, v_s4 = si v_s 2 x3 → post v_s4))))))
set_option maxRecDepth 100000 in
set_option maxHeartbeats 1000000 in
theorem wX7_putBack_b31 {v_h : OV}  {post : OV → Prop} {ad_h : Nat → Nat} {ad_s : Nat → Nat} (X : kn_X p s m args meth c cX7_putBack 3 none RX7 kn_all D tc Z (kn_A w0 s.heap.size))    : ∀ (H : Heap) (locs : List Loc) (ls : Array Slot) (y2 : Int32) (v_s : OV), kn_I D tc (kn_A w0 s.heap.size) s.heap [(kHill, ad_h, v_h), (kState, ad_s, v_s)] H locs → lv_has ls 3 [(1, .ref (ad_s 0)), (2, .int y2)] → PX7_putBack_b31 v_h post y2 v_s → W p l e rmX7_putBack s m args below meth c H locs 0 0 (kn_Qv D tc w0 (fun (u : OV) => [(kHill, ad_h, v_h), (kState, ad_s, u)]) (fun (u : OV) => post u) below args s 0 0) (F0 m 31 ls []) := by
  obtain ⟨S0, hr, hlocks, hK, hZ, hA⟩ := id X
  obtain ⟨hx, hb, hml, hown, hts⟩ := id S0
  intro H locs ls y2 v_s I hl h
  unfold PX7_putBack_b31 at h
  refine lv_iload_n hx hb (kn_dec tX7_putBack 17 rfl) rfl (lv_at hl 1 rfl) ?_
  refine lv_iconst (v := (2)) hx hb (kn_dec tX7_putBack 18 rfl) (by decide) ?_
  refine lv_icmp_ne (tgt := 53) hx hb (kn_dec tX7_putBack 19 rfl) (by decide) (fun c1 => ?_) (fun c1 => ?_)
  · have h := h.1 c1
    exact kw_vret hx hb hr hlocks I _ rfl h (kn_dec tX7_putBack 29 rfl)
  · have h := h.2 c1
    refine lv_aload_n hx hb (kn_dec tX7_putBack 20 rfl) rfl (lv_at hl 0 rfl) ?_
    refine kw_geti hx hb hts inX6 hown hK I 1 rfl rfl 2 (by decide) rfl (hts _ q1_226) (kn_dec tX7_putBack 21 rfl) ?_
    refine lv_if_le (tgt := 53) hx hb (kn_dec tX7_putBack 22 rfl) (by decide) (fun c2 => ?_) (fun c2 => ?_)
    · have h := h.1 c2
      exact kw_vret hx hb hr hlocks I _ rfl h (kn_dec tX7_putBack 29 rfl)
    · have h := h.2 c2
      refine lv_aload_n hx hb (kn_dec tX7_putBack 23 rfl) rfl (lv_at hl 0 rfl) ?_
      refine lv_dup hx hb (kn_dec tX7_putBack 24 rfl) rfl ?_
      refine kw_geti hx hb hts inX6 hown hK I 1 rfl rfl 2 (by decide) rfl (hts _ q1_226) (kn_dec tX7_putBack 25 rfl) ?_
      refine lv_iconst (v := (1)) hx hb (kn_dec tX7_putBack 26 rfl) (by decide) ?_
      refine lv_isub hx hb (kn_dec tX7_putBack 27 rfl) ?_
      refine lv_topi (fun x3 ex3 => ?_)
      have h := h x3 ex3
      refine kw_puti hx hb hts inX6 tyX6 tyX6_ok nmX6 hown hK I 1 rfl rfl 2 (by decide) rfl (hts _ q1_226) rfl rfl rfl (kn_dec tX7_putBack 28 rfl) (fun v_s4 ev_s4 H locs I => ?_)
      have h := h v_s4 ev_s4
      have I : kn_I D tc (kn_A w0 s.heap.size) s.heap [(kHill, ad_h, _), (kState, ad_s, _)] _ _ := I
      exact kw_vret hx hb hr hlocks I _ rfl h (kn_dec tX7_putBack 29 rfl)
def PX7_putBack  (v_h : OV) (v_s : OV) (a2 : Int32) (post : OV → Prop) : Prop := ((¬ a2 = ((1 : Int32)) → PX7_putBack_b31 v_h post a2 v_s) ∧ (a2 = ((1 : Int32)) → ((((v_h.1 4) - ((1 : Int32))) ≤ (v_s.1 2) → PX7_putBack_b31 v_h post a2 v_s) ∧ (¬ ((v_h.1 4) - ((1 : Int32))) ≤ (v_s.1 2) → (∀ x3 : Int32, x3 = ((v_s.1 2) + ((1 : Int32))) → (∀ v_s4 : OV, v_s4 = si v_s 2 x3 → post v_s4))))))
set_option maxRecDepth 100000 in
set_option maxHeartbeats 1000000 in
theorem ctX7_putBack {l : Launch} {D : va_G} {tc : Nat → ClassId} {Z : (Nat → Nat) × (Nat → Nat)}  {ad_h : Nat → Nat} {ad_s : Nat → Nat} {v_h : OV} {v_s : OV} {a2 : Int32}    {post : OV → Prop} (h : PX7_putBack  v_h v_s a2 post) : CTv l D tc Z yX7_putBack (Cond.code yX7_putBack cX7_putBack 3 none :: kn_all) rmX7_putBack 0 0 [.ref (ad_h 0), .ref (ad_s 0), .int a2] [(kHill, ad_h, v_h), (kState, ad_s, v_s)] (fun (u : OV) => [(kHill, ad_h, v_h), (kState, ad_s, u)]) (fun (u : OV) => post u) := by
  refine kn_ofv (cc := cX7_putBack) (nL := 3) (ret := none) (lv := [(0, .ref (ad_h 0)), (1, .ref (ad_s 0)), (2, .int a2)]) (by decide) (Nat.le_of_ble_eq_true rfl) rfl (fun p e s m below meth c ls X I hl _ => ?_)
  obtain ⟨S0, hr, hlocks, hK, hZ, hA⟩ := id X
  obtain ⟨hx, hb, hml, hown, hts⟩ := id S0
  unfold PX7_putBack at h
  refine lv_iload_n hx hb (kn_dec tX7_putBack 0 rfl) rfl (lv_at hl 2 rfl) ?_
  refine lv_iconst (v := (1)) hx hb (kn_dec tX7_putBack 1 rfl) (by decide) ?_
  refine lv_icmp_ne (tgt := 31) hx hb (kn_dec tX7_putBack 2 rfl) (by decide) (fun c1 => ?_) (fun c1 => ?_)
  · have h := h.1 c1
    exact wX7_putBack_b31 X _ _ _ _ _  I (lv_sub hl [1, 2] rfl) h
  · have h := h.2 c1
    refine lv_aload_n hx hb (kn_dec tX7_putBack 3 rfl) rfl (lv_at hl 1 rfl) ?_
    refine kw_geti hx hb hts inX6 hown hK I 1 rfl rfl 2 (by decide) rfl (hts _ q1_226) (kn_dec tX7_putBack 4 rfl) ?_
    refine lv_aload_n hx hb (kn_dec tX7_putBack 5 rfl) rfl (lv_at hl 0 rfl) ?_
    refine kw_geti hx hb hts inX0 hown hK I 0 rfl rfl 4 (by decide) rfl (hts _ q1_128) (kn_dec tX7_putBack 6 rfl) ?_
    refine lv_iconst (v := (1)) hx hb (kn_dec tX7_putBack 7 rfl) (by decide) ?_
    refine lv_isub hx hb (kn_dec tX7_putBack 8 rfl) ?_
    refine lv_icmp_ge (tgt := 31) hx hb (kn_dec tX7_putBack 9 rfl) (by decide) (fun c2 => ?_) (fun c2 => ?_)
    · have h := h.1 c2
      exact wX7_putBack_b31 X _ _ _ _ _  I (lv_sub hl [1, 2] rfl) h
    · have h := h.2 c2
      refine lv_aload_n hx hb (kn_dec tX7_putBack 10 rfl) rfl (lv_at hl 1 rfl) ?_
      refine lv_dup hx hb (kn_dec tX7_putBack 11 rfl) rfl ?_
      refine kw_geti hx hb hts inX6 hown hK I 1 rfl rfl 2 (by decide) rfl (hts _ q1_226) (kn_dec tX7_putBack 12 rfl) ?_
      refine lv_iconst (v := (1)) hx hb (kn_dec tX7_putBack 13 rfl) (by decide) ?_
      refine lv_iadd hx hb (kn_dec tX7_putBack 14 rfl) ?_
      refine lv_topi (fun x3 ex3 => ?_)
      have h := h x3 ex3
      refine kw_puti hx hb hts inX6 tyX6 tyX6_ok nmX6 hown hK I 1 rfl rfl 2 (by decide) rfl (hts _ q1_226) rfl rfl rfl (kn_dec tX7_putBack 15 rfl) (fun v_s4 ev_s4 H locs I => ?_)
      have h := h v_s4 ev_s4
      have I : kn_I D tc (kn_A _ s.heap.size) s.heap [(kHill, ad_h, _), (kState, ad_s, _)] _ _ := I
      refine lv_goto (tgt := 53) hx hb (kn_dec tX7_putBack 16 rfl) (by decide) ?_
      exact kw_vret hx hb hr hlocks I _ rfl h (kn_dec tX7_putBack 29 rfl)

/-! X7_isSeen -/
abbrev rmX7_isSeen : Room := { frames := 0, cells := 0, slots := 0, locals := 0 }
def PX7_isSeen_b23 (v_h : OV) (v_s : OV)  (post : Int32 → Prop) (t0 : Int32) : Prop := ((t0 = ((0 : Int32)) → post ((0 : Int32))) ∧ (¬ t0 = ((0 : Int32)) → (vp_in (v_s.1 2) 10 ∧ (((v_s.2.1 3 (v_s.1 2).toNatClampNeg) < (v_h.1 2) → post ((0 : Int32))) ∧ (¬ (v_s.2.1 3 (v_s.1 2).toNatClampNeg) < (v_h.1 2) → post ((1 : Int32)))))))
set_option maxRecDepth 100000 in
set_option maxHeartbeats 1000000 in
theorem wX7_isSeen_b23 {v_h : OV} {v_s : OV}  {post : Int32 → Prop} {ad_h : Nat → Nat} {ad_s : Nat → Nat} (X : kn_X p s m args meth c cX7_isSeen 3 (some .boolean) RX7 kn_all D tc Z (kn_A w0 s.heap.size))    : ∀ (H : Heap) (locs : List Loc) (ls : Array Slot) (t0 : Int32), (hz_t0 : t0 = 0 ∨ t0 = 1) → kn_I D tc (kn_A w0 s.heap.size) s.heap [(kHill, ad_h, v_h), (kState, ad_s, v_s)] H locs → lv_has ls 3 [(0, .ref (ad_h 0)), (1, .ref (ad_s 0))] → PX7_isSeen_b23 v_h v_s post t0 → W p l e rmX7_isSeen s m args below meth c H locs 0 0 (kn_Qi D tc w0 (fun (u : Unit) => [(kHill, ad_h, v_h), (kState, ad_s, v_s)]) (fun (r : Int32) (u : Unit) => (r = 0 ∨ r = 1) ∧ post r) below args s 0 0) (F0 m 23 ls [.int t0]) := by
  obtain ⟨S0, hr, hlocks, hK, hZ, hA⟩ := id X
  obtain ⟨hx, hb, hml, hown, hts⟩ := id S0
  intro H locs ls t0 hz_t0 I hl h
  unfold PX7_isSeen_b23 at h
  refine lv_istore_n (lv' := [(2, .int _), (0, .ref (ad_h 0)), (1, .ref (ad_s 0))]) hx hb (kn_dec tX7_isSeen 11 rfl) rfl hl (by decide) rfl (fun ls hl => ?_)
  refine lv_iload_n hx hb (kn_dec tX7_isSeen 12 rfl) rfl (lv_at hl 0 rfl) ?_
  refine lv_if_eq (tgt := 48) hx hb (kn_dec tX7_isSeen 13 rfl) (by decide) (fun c1 => ?_) (fun c1 => ?_)
  · have h := h.1 c1
    refine lv_iconst (v := (0)) hx hb (kn_dec tX7_isSeen 24 rfl) (by decide) ?_
    exact kw_zret hx hb hr (kn_nz (Or.inl rfl)) hlocks I () rfl ⟨(Or.inl rfl), h⟩ (kn_dec tX7_isSeen 25 rfl)
  · have h := h.2 c1
    refine lv_aload_n hx hb (kn_dec tX7_isSeen 14 rfl) rfl (lv_at hl 2 rfl) ?_
    refine kw_getl hx hb hts inX6 hown hK I 1 rfl rfl 3 (by decide) rfl (hts _ q1_230) (kn_dec tX7_isSeen 15 rfl) rfl ?_
    refine lv_aload_n hx hb (kn_dec tX7_isSeen 16 rfl) rfl (lv_at hl 2 rfl) ?_
    refine kw_geti hx hb hts inX6 hown hK I 1 rfl rfl 2 (by decide) rfl (hts _ q1_226) (kn_dec tX7_isSeen 17 rfl) ?_
    obtain ⟨hs2, h⟩ := h
    refine kw_iald hx hb hK I 1 rfl 3 10 (List.mem_of_getElem? (i := 0) rfl) hs2 (kn_dec tX7_isSeen 18 rfl) ?_
    refine lv_aload_n hx hb (kn_dec tX7_isSeen 19 rfl) rfl (lv_at hl 1 rfl) ?_
    refine kw_geti hx hb hts inX0 hown hK I 0 rfl rfl 2 (by decide) rfl (hts _ q1_124) (kn_dec tX7_isSeen 20 rfl) ?_
    refine lv_icmp_lt (tgt := 48) hx hb (kn_dec tX7_isSeen 21 rfl) (by decide) (fun c3 => ?_) (fun c3 => ?_)
    · have h := h.1 c3
      refine lv_iconst (v := (0)) hx hb (kn_dec tX7_isSeen 24 rfl) (by decide) ?_
      exact kw_zret hx hb hr (kn_nz (Or.inl rfl)) hlocks I () rfl ⟨(Or.inl rfl), h⟩ (kn_dec tX7_isSeen 25 rfl)
    · have h := h.2 c3
      refine lv_iconst (v := (1)) hx hb (kn_dec tX7_isSeen 22 rfl) (by decide) ?_
      refine lv_goto (tgt := 49) hx hb (kn_dec tX7_isSeen 23 rfl) (by decide) ?_
      exact kw_zret hx hb hr (kn_nz (Or.inr rfl)) hlocks I () rfl ⟨(Or.inr rfl), h⟩ (kn_dec tX7_isSeen 25 rfl)
def PX7_isSeen  (v_h : OV) (v_s : OV) (post : Int32 → Prop) : Prop := (((v_s.1 2) < ((0 : Int32)) → PX7_isSeen_b23 v_h v_s post ((0 : Int32))) ∧ (¬ (v_s.1 2) < ((0 : Int32)) → (((v_h.1 4) ≤ (v_s.1 2) → PX7_isSeen_b23 v_h v_s post ((0 : Int32))) ∧ (¬ (v_h.1 4) ≤ (v_s.1 2) → PX7_isSeen_b23 v_h v_s post ((1 : Int32))))))
set_option maxRecDepth 100000 in
set_option maxHeartbeats 1000000 in
theorem ctX7_isSeen {l : Launch} {D : va_G} {tc : Nat → ClassId} {Z : (Nat → Nat) × (Nat → Nat)}  {ad_h : Nat → Nat} {ad_s : Nat → Nat} {v_h : OV} {v_s : OV}    {post : Int32 → Prop} (h : PX7_isSeen  v_h v_s post) : CTi l D tc Z yX7_isSeen (Cond.code yX7_isSeen cX7_isSeen 3 (some .boolean) :: kn_all) rmX7_isSeen 0 0 [.ref (ad_h 0), .ref (ad_s 0)] [(kHill, ad_h, v_h), (kState, ad_s, v_s)] (fun (u : Unit) => [(kHill, ad_h, v_h), (kState, ad_s, v_s)]) (fun (r : Int32) (u : Unit) => (r = 0 ∨ r = 1) ∧ post r) := by
  refine kn_ofi (cc := cX7_isSeen) (nL := 3) (ret := (some .boolean)) (lv := [(0, .ref (ad_h 0)), (1, .ref (ad_s 0))]) (by decide) (Nat.le_of_ble_eq_true rfl) rfl (fun p e s m below meth c ls X I hl _ => ?_)
  obtain ⟨S0, hr, hlocks, hK, hZ, hA⟩ := id X
  obtain ⟨hx, hb, hml, hown, hts⟩ := id S0
  unfold PX7_isSeen at h
  refine lv_aload_n hx hb (kn_dec tX7_isSeen 0 rfl) rfl (lv_at hl 1 rfl) ?_
  refine kw_geti hx hb hts inX6 hown hK I 1 rfl rfl 2 (by decide) rfl (hts _ q1_226) (kn_dec tX7_isSeen 1 rfl) ?_
  refine lv_if_lt (tgt := 22) hx hb (kn_dec tX7_isSeen 2 rfl) (by decide) (fun c1 => ?_) (fun c1 => ?_)
  · have h := h.1 c1
    refine lv_iconst (v := (0)) hx hb (kn_dec tX7_isSeen 10 rfl) (by decide) ?_
    exact wX7_isSeen_b23 X _ _ _ _ (Or.inl rfl) I (lv_sub hl [0, 1] rfl) h
  · have h := h.2 c1
    refine lv_aload_n hx hb (kn_dec tX7_isSeen 3 rfl) rfl (lv_at hl 1 rfl) ?_
    refine kw_geti hx hb hts inX6 hown hK I 1 rfl rfl 2 (by decide) rfl (hts _ q1_226) (kn_dec tX7_isSeen 4 rfl) ?_
    refine lv_aload_n hx hb (kn_dec tX7_isSeen 5 rfl) rfl (lv_at hl 0 rfl) ?_
    refine kw_geti hx hb hts inX0 hown hK I 0 rfl rfl 4 (by decide) rfl (hts _ q1_128) (kn_dec tX7_isSeen 6 rfl) ?_
    refine lv_icmp_ge (tgt := 22) hx hb (kn_dec tX7_isSeen 7 rfl) (by decide) (fun c2 => ?_) (fun c2 => ?_)
    · have h := h.1 c2
      refine lv_iconst (v := (0)) hx hb (kn_dec tX7_isSeen 10 rfl) (by decide) ?_
      exact wX7_isSeen_b23 X _ _ _ _ (Or.inl rfl) I (lv_sub hl [0, 1] rfl) h
    · have h := h.2 c2
      refine lv_iconst (v := (1)) hx hb (kn_dec tX7_isSeen 8 rfl) (by decide) ?_
      refine lv_goto (tgt := 23) hx hb (kn_dec tX7_isSeen 9 rfl) (by decide) ?_
      exact wX7_isSeen_b23 X _ _ _ _ (Or.inr rfl) I (lv_sub hl [0, 1] rfl) h

/-! X7_setSeekerWords -/
abbrev rmX7_setSeekerWords : Room := { frames := 2, cells := 0, slots := 0, locals := 42 }
def PX7_setSeekerWords  (v_w : OV) (v_h : OV) (v_s : OV) (a3 : Int32) (post : OV → Prop) : Prop := (∀ x1 : Int64, x1 = (a3.toInt64) → (∀ v_w2 : OV, v_w2 = sl v_w 0 (vp_updL (v_w.2.2 0) ((0 : Int32)).toNatClampNeg x1) → (∀ x3 : Int64, x3 = ((v_s.1 1).toInt64) → (∀ v_w4 : OV, v_w4 = sl v_w2 0 (vp_updL (v_w2.2.2 0) ((6 : Int32)).toNatClampNeg x3) → (vp_in a3 4 ∧ (∀ x6 : Int64, x6 = ((v_h.2.1 12 a3.toNatClampNeg).toInt64) → (∀ v_w7 : OV, v_w7 = sl v_w4 0 (vp_updL (v_w4.2.2 0) ((9 : Int32)).toNatClampNeg x6) → (vp_in a3 4 ∧ (∀ x9 : Int64, x9 = ((v_s.2.1 7 a3.toNatClampNeg).toInt64) → (∀ v_w10 : OV, v_w10 = sl v_w7 0 (vp_updL (v_w7.2.2 0) ((10 : Int32)).toNatClampNeg x9) → (PX6_finders v_s (fun r11 => (∀ x13 : Int64, x13 = (r11.toInt64) → (∀ v_w14 : OV, v_w14 = sl v_w10 0 (vp_updL (v_w10.2.2 0) ((12 : Int32)).toNatClampNeg x13) → (∀ x15 : Int64, x15 = ((v_s.1 0).toInt64) → (∀ v_w16 : OV, v_w16 = sl v_w14 0 (vp_updL (v_w14.2.2 0) ((13 : Int32)).toNatClampNeg x15) → post v_w16))))))))))))))))
set_option maxRecDepth 100000 in
set_option maxHeartbeats 1000000 in
theorem ctX7_setSeekerWords {l : Launch} {D : va_G} {tc : Nat → ClassId} {Z : (Nat → Nat) × (Nat → Nat)}  {ad_w : Nat → Nat} {ad_h : Nat → Nat} {ad_s : Nat → Nat} {v_w : OV} {v_h : OV} {v_s : OV} {a3 : Int32}    {post : OV → Prop} (h : PX7_setSeekerWords  v_w v_h v_s a3 post) : CTv l D tc Z yX7_setSeekerWords (Cond.code yX7_setSeekerWords cX7_setSeekerWords 4 none :: kn_all) rmX7_setSeekerWords 0 0 [.ref (ad_w 0), .ref (ad_h 0), .ref (ad_s 0), .int a3] [(kWalk, ad_w, v_w), (kHill, ad_h, v_h), (kState, ad_s, v_s)] (fun (u : OV) => [(kWalk, ad_w, u), (kHill, ad_h, v_h), (kState, ad_s, v_s)]) (fun (u : OV) => post u) := by
  refine kn_ofv (cc := cX7_setSeekerWords) (nL := 4) (ret := none) (lv := [(0, .ref (ad_w 0)), (1, .ref (ad_h 0)), (2, .ref (ad_s 0)), (3, .int a3)]) (by decide) (Nat.le_of_ble_eq_true rfl) rfl (fun p e s m below meth c ls X I hl _ => ?_)
  obtain ⟨S0, hr, hlocks, hK, hZ, hA⟩ := id X
  obtain ⟨hx, hb, hml, hown, hts⟩ := id S0
  unfold PX7_setSeekerWords at h
  refine lv_aload_n hx hb (kn_dec tX7_setSeekerWords 0 rfl) rfl (lv_at hl 0 rfl) ?_
  refine kw_getl hx hb hts inX7 hown hK I 0 rfl rfl 0 (by decide) rfl (hts _ q2_73) (kn_dec tX7_setSeekerWords 1 rfl) rfl ?_
  refine lv_iconst (v := (0)) hx hb (kn_dec tX7_setSeekerWords 2 rfl) (by decide) ?_
  refine lv_iload_n hx hb (kn_dec tX7_setSeekerWords 3 rfl) rfl (lv_at hl 3 rfl) ?_
  refine lv_i2l hx hb (kn_dec tX7_setSeekerWords 4 rfl) rfl ?_
  refine lv_topl (fun x1 ex1 => ?_)
  have h := h x1 ex1
  refine kw_last hx hb hK I 0 rfl 0 14 (List.mem_of_getElem? (i := 0) rfl) ukWalk_0 (by unfold vp_in; decide) (kn_dec tX7_setSeekerWords 5 rfl) (fun v_w2 ev_w2 H locs I => ?_)
  have h := h v_w2 ev_w2
  have I : kn_I D tc (kn_A _ s.heap.size) s.heap [(kWalk, ad_w, _), (kHill, ad_h, _), (kState, ad_s, _)] _ _ := I
  refine lv_aload_n hx hb (kn_dec tX7_setSeekerWords 6 rfl) rfl (lv_at hl 0 rfl) ?_
  refine kw_getl hx hb hts inX7 hown hK I 0 rfl rfl 0 (by decide) rfl (hts _ q2_73) (kn_dec tX7_setSeekerWords 7 rfl) rfl ?_
  refine lv_bipush (v := (6)) hx hb (kn_dec tX7_setSeekerWords 8 rfl) (by decide) ?_
  refine lv_aload_n hx hb (kn_dec tX7_setSeekerWords 9 rfl) rfl (lv_at hl 2 rfl) ?_
  refine kw_geti hx hb hts inX6 hown hK I 2 rfl rfl 1 (by decide) rfl (hts _ q1_223) (kn_dec tX7_setSeekerWords 10 rfl) ?_
  refine lv_i2l hx hb (kn_dec tX7_setSeekerWords 11 rfl) rfl ?_
  refine lv_topl (fun x3 ex3 => ?_)
  have h := h x3 ex3
  refine kw_last hx hb hK I 0 rfl 0 14 (List.mem_of_getElem? (i := 0) rfl) ukWalk_0 (by unfold vp_in; decide) (kn_dec tX7_setSeekerWords 12 rfl) (fun v_w4 ev_w4 H locs I => ?_)
  have h := h v_w4 ev_w4
  have I : kn_I D tc (kn_A _ s.heap.size) s.heap [(kWalk, ad_w, _), (kHill, ad_h, _), (kState, ad_s, _)] _ _ := I
  refine lv_aload_n hx hb (kn_dec tX7_setSeekerWords 13 rfl) rfl (lv_at hl 0 rfl) ?_
  refine kw_getl hx hb hts inX7 hown hK I 0 rfl rfl 0 (by decide) rfl (hts _ q2_73) (kn_dec tX7_setSeekerWords 14 rfl) rfl ?_
  refine lv_bipush (v := (9)) hx hb (kn_dec tX7_setSeekerWords 15 rfl) (by decide) ?_
  refine lv_aload_n hx hb (kn_dec tX7_setSeekerWords 16 rfl) rfl (lv_at hl 1 rfl) ?_
  refine kw_getl hx hb hts inX0 hown hK I 1 rfl rfl 12 (by decide) rfl (hts _ q1_158) (kn_dec tX7_setSeekerWords 17 rfl) rfl ?_
  refine lv_iload_n hx hb (kn_dec tX7_setSeekerWords 18 rfl) rfl (lv_at hl 3 rfl) ?_
  obtain ⟨hs5, h⟩ := h
  refine kw_iald hx hb hK I 1 rfl 12 4 (List.mem_of_getElem? (i := 4) rfl) hs5 (kn_dec tX7_setSeekerWords 19 rfl) ?_
  refine lv_i2l hx hb (kn_dec tX7_setSeekerWords 20 rfl) rfl ?_
  refine lv_topl (fun x6 ex6 => ?_)
  have h := h x6 ex6
  refine kw_last hx hb hK I 0 rfl 0 14 (List.mem_of_getElem? (i := 0) rfl) ukWalk_0 (by unfold vp_in; decide) (kn_dec tX7_setSeekerWords 21 rfl) (fun v_w7 ev_w7 H locs I => ?_)
  have h := h v_w7 ev_w7
  have I : kn_I D tc (kn_A _ s.heap.size) s.heap [(kWalk, ad_w, _), (kHill, ad_h, _), (kState, ad_s, _)] _ _ := I
  refine lv_aload_n hx hb (kn_dec tX7_setSeekerWords 22 rfl) rfl (lv_at hl 0 rfl) ?_
  refine kw_getl hx hb hts inX7 hown hK I 0 rfl rfl 0 (by decide) rfl (hts _ q2_73) (kn_dec tX7_setSeekerWords 23 rfl) rfl ?_
  refine lv_bipush (v := (10)) hx hb (kn_dec tX7_setSeekerWords 24 rfl) (by decide) ?_
  refine lv_aload_n hx hb (kn_dec tX7_setSeekerWords 25 rfl) rfl (lv_at hl 2 rfl) ?_
  refine kw_getl hx hb hts inX6 hown hK I 2 rfl rfl 7 (by decide) rfl (hts _ q2_2) (kn_dec tX7_setSeekerWords 26 rfl) rfl ?_
  refine lv_iload_n hx hb (kn_dec tX7_setSeekerWords 27 rfl) rfl (lv_at hl 3 rfl) ?_
  obtain ⟨hs8, h⟩ := h
  refine kw_iald hx hb hK I 2 rfl 7 4 (List.mem_of_getElem? (i := 4) rfl) hs8 (kn_dec tX7_setSeekerWords 28 rfl) ?_
  refine lv_i2l hx hb (kn_dec tX7_setSeekerWords 29 rfl) rfl ?_
  refine lv_topl (fun x9 ex9 => ?_)
  have h := h x9 ex9
  refine kw_last hx hb hK I 0 rfl 0 14 (List.mem_of_getElem? (i := 0) rfl) ukWalk_0 (by unfold vp_in; decide) (kn_dec tX7_setSeekerWords 30 rfl) (fun v_w10 ev_w10 H locs I => ?_)
  have h := h v_w10 ev_w10
  have I : kn_I D tc (kn_A _ s.heap.size) s.heap [(kWalk, ad_w, _), (kHill, ad_h, _), (kState, ad_s, _)] _ _ := I
  refine lv_aload_n hx hb (kn_dec tX7_setSeekerWords 31 rfl) rfl (lv_at hl 0 rfl) ?_
  refine kw_getl hx hb hts inX7 hown hK I 0 rfl rfl 0 (by decide) rfl (hts _ q2_73) (kn_dec tX7_setSeekerWords 32 rfl) rfl ?_
  refine lv_bipush (v := (12)) hx hb (kn_dec tX7_setSeekerWords 33 rfl) (by decide) ?_
  refine lv_aload_n hx hb (kn_dec tX7_setSeekerWords 34 rfl) rfl (lv_at hl 2 rfl) ?_
  refine kw_calli (wc := [(kState, ad_s, _)]) (wr := [(kWalk, ad_w, _), (kHill, ad_h, _)]) I hA [2] [0, 1] rfl rfl (by decide) (by decide) (kn_runV (As := []) S0 hK hZ hA I ((ctX6_finders h).met _) (kn_cwV 0 hts q3_195 q3_196 q3_197 q1_8 q3_198 rfl rfl (by decide +kernel) ⟨(Nat.le_of_ble_eq_true rfl), (Nat.le_of_ble_eq_true rfl)⟩) [2] rfl (by decide) 2 rfl rfl rfl rfl hl.1 rfl (Nat.le_of_ble_eq_true rfl) (kn_dec tX7_setSeekerWords 35 rfl) ⟨(Nat.le_of_ble_eq_true rfl), (Nat.le_of_ble_eq_true rfl)⟩) (fun r11 u12 H locs h I => ?_)
  have I : kn_I D tc (kn_A _ s.heap.size) s.heap [(kWalk, ad_w, _), (kHill, ad_h, _), (kState, ad_s, _)] _ _ := I
  refine lv_i2l hx hb (kn_dec tX7_setSeekerWords 36 rfl) rfl ?_
  refine lv_topl (fun x13 ex13 => ?_)
  have h := h x13 ex13
  refine kw_last hx hb hK I 0 rfl 0 14 (List.mem_of_getElem? (i := 0) rfl) ukWalk_0 (by unfold vp_in; decide) (kn_dec tX7_setSeekerWords 37 rfl) (fun v_w14 ev_w14 H locs I => ?_)
  have h := h v_w14 ev_w14
  have I : kn_I D tc (kn_A _ s.heap.size) s.heap [(kWalk, ad_w, _), (kHill, ad_h, _), (kState, ad_s, _)] _ _ := I
  refine lv_aload_n hx hb (kn_dec tX7_setSeekerWords 38 rfl) rfl (lv_at hl 0 rfl) ?_
  refine kw_getl hx hb hts inX7 hown hK I 0 rfl rfl 0 (by decide) rfl (hts _ q2_73) (kn_dec tX7_setSeekerWords 39 rfl) rfl ?_
  refine lv_bipush (v := (13)) hx hb (kn_dec tX7_setSeekerWords 40 rfl) (by decide) ?_
  refine lv_aload_n hx hb (kn_dec tX7_setSeekerWords 41 rfl) rfl (lv_at hl 2 rfl) ?_
  refine kw_geti hx hb hts inX6 hown hK I 2 rfl rfl 0 (by decide) rfl (hts _ q1_220) (kn_dec tX7_setSeekerWords 42 rfl) ?_
  refine lv_i2l hx hb (kn_dec tX7_setSeekerWords 43 rfl) rfl ?_
  refine lv_topl (fun x15 ex15 => ?_)
  have h := h x15 ex15
  refine kw_last hx hb hK I 0 rfl 0 14 (List.mem_of_getElem? (i := 0) rfl) ukWalk_0 (by unfold vp_in; decide) (kn_dec tX7_setSeekerWords 44 rfl) (fun v_w16 ev_w16 H locs I => ?_)
  have h := h v_w16 ev_w16
  have I : kn_I D tc (kn_A _ s.heap.size) s.heap [(kWalk, ad_w, _), (kHill, ad_h, _), (kState, ad_s, _)] _ _ := I
  exact kw_vret hx hb hr hlocks I _ rfl h (kn_dec tX7_setSeekerWords 45 rfl)

end
