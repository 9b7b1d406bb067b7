section
variable {p : Program} {l : Launch} {e : Env} {s : State} {m : MethodId} {args : Array Value} {below : List Frame} {meth : Method} {c : Code} {D : va_G} {tc : Nat → ClassId} {Z : (Nat → Nat) × (Nat → Nat)} {w0 : List CH}

/-! X9_ruleClause -/
abbrev rmX9_ruleClause : Room := { frames := 11, cells := 0, slots := 0, locals := 239 }
def PX9_ruleClause_b104   (post : OV → Prop) (y3 : Int32) (v_m : OV) : Prop := (∀ x1 : Int32, x1 = (v_m.1 35) → (vp_in y3 72 ∧ (∀ v_m3 : OV, v_m3 = sa v_m 46 (upd (v_m.2.1 46) y3.toNatClampNeg x1) → post v_m3)))
set_option maxRecDepth 100000 in
set_option maxHeartbeats 1000000 in
theorem wX9_ruleClause_b104   {post : OV → Prop} {ad_m : Nat → Nat} (X : kn_X p s m args meth c cX9_ruleClause 4 none RX9 kn_all D tc Z (kn_A w0 s.heap.size))    : ∀ (H : Heap) (locs : List Loc) (ls : Array Slot) (y3 : Int32) (v_m : OV), kn_I D tc (kn_A w0 s.heap.size) s.heap [(kModel, ad_m, v_m)] H locs → lv_has ls 4 [(0, .ref (ad_m 0)), (3, .int y3)] → PX9_ruleClause_b104 post y3 v_m → W p l e rmX9_ruleClause s m args below meth c H locs 0 0 (kn_Qv D tc w0 (fun (u : OV) => [(kModel, ad_m, u)]) (fun (u : OV) => post u) below args s 0 0) (F0 m 104 ls []) := by
  obtain ⟨S0, hr, hlocks, hK, hZ, hA⟩ := id X
  obtain ⟨hx, hb, hml, hown, hts⟩ := id S0
  intro H locs ls y3 v_m I hl h
  unfold PX9_ruleClause_b104 at h
  refine lv_aload_n hx hb (kn_dec tX9_ruleClause 58 rfl) rfl (lv_at hl 0 rfl) ?_
  refine kw_getl hx hb hts inX9 hown hK I 0 rfl rfl 46 (by decide) rfl (hts _ q5_6) (kn_dec tX9_ruleClause 59 rfl) rfl ?_
  refine lv_iload_n hx hb (kn_dec tX9_ruleClause 60 rfl) rfl (lv_at hl 1 rfl) ?_
  refine lv_aload_n hx hb (kn_dec tX9_ruleClause 61 rfl) rfl (lv_at hl 0 rfl) ?_
  refine kw_geti hx hb hts inX9 hown hK I 0 rfl rfl 35 (by decide) rfl (hts _ q4_235) (kn_dec tX9_ruleClause 62 rfl) ?_
  refine lv_topi (fun x1 ex1 => ?_)
  have h := h x1 ex1
  obtain ⟨hs2, h⟩ := h
  refine kw_iast hx hb hK I 0 rfl 46 72 (List.mem_of_getElem? (i := 35) rfl) ukModel_46 hs2 (kn_dec tX9_ruleClause 63 rfl) (fun v_m3 ev_m3 H locs I => ?_)
  have h := h v_m3 ev_m3
  have I : kn_I D tc (kn_A w0 s.heap.size) s.heap [(kModel, ad_m, _)] _ _ := I
  exact kw_vret hx hb hr hlocks I _ rfl h (kn_dec tX9_ruleClause 64 rfl)
def PX9_ruleClause  (v_m : OV) (a1 : Int32) (post : OV → Prop) : Prop := (PX9_blanks v_m (fun v_m1 => (∀ x3 : Int32, x3 = (v_m1.1 31) → (PX9_stood v_m1 28 (fun r4 => ((¬ r4 = ((0 : Int32)) → ((¬ a1 = ((12 : Int32)) → (∀ x8 : Int32, x8 = ((v_m1.1 31) + ((4 : Int32))) → (∀ v_m9 : OV, v_m9 = si v_m1 31 x8 → (∀ x10 : Int32, x10 = ((((12 : Int32)) * (v_m9.1 33)) + a1) → (∀ x11 : Int32, x11 = (v_m9.1 35) → (vp_in x10 72 ∧ (∀ v_m13 : OV, v_m13 = sa v_m9 44 (upd (v_m9.2.1 44) x10.toNatClampNeg x11) → (PX9_sum v_m13 (fun v_m14 => (∀ x16 : Int32, x16 = (v_m14.1 35) → (vp_in x10 72 ∧ (∀ v_m18 : OV, v_m18 = sa v_m14 45 (upd (v_m14.2.1 45) x10.toNatClampNeg x16) → ((¬ (v_m18.1 32) = ((0 : Int32)) → PX9_ruleClause_b104 post x10 v_m18) ∧ ((v_m18.1 32) = ((0 : Int32)) → (PX9_takes v_m18 29 (fun r21 v_m20 => ((r21 = ((0 : Int32)) → PX9_ruleClause_b104 post x10 v_m20) ∧ (¬ r21 = ((0 : Int32)) → (PX9_test v_m20 (fun v_m24 => PX9_ruleClause_b104 post x10 v_m24)))))))))))))))))))) ∧ (a1 = ((12 : Int32)) → (PX9_fails v_m1 ((4 : Int32)) x3 (fun v_m26 => post v_m26))))) ∧ (r4 = ((0 : Int32)) → (PX9_fails v_m1 ((0 : Int32)) x3 (fun v_m28 => post v_m28)))))))))
set_option maxRecDepth 100000 in
set_option maxHeartbeats 1000000 in
theorem ctX9_ruleClause {l : Launch} {D : va_G} {tc : Nat → ClassId} {Z : (Nat → Nat) × (Nat → Nat)}  {ad_m : Nat → Nat} {v_m : OV} {a1 : Int32}    {post : OV → Prop} (h : PX9_ruleClause  v_m a1 post) : CTv l D tc Z yX9_ruleClause (Cond.code yX9_ruleClause cX9_ruleClause 4 none :: kn_all) rmX9_ruleClause 0 0 [.ref (ad_m 0), .int a1] [(kModel, ad_m, v_m)] (fun (u : OV) => [(kModel, ad_m, u)]) (fun (u : OV) => post u) := by
  refine kn_ofv (cc := cX9_ruleClause) (nL := 4) (ret := none) (lv := [(0, .ref (ad_m 0)), (1, .int a1)]) (by decide) (Nat.le_of_ble_eq_true rfl) rfl (fun p e s m below meth c ls X I hl _ => ?_)
  obtain ⟨S0, hr, hlocks, hK, hZ, hA⟩ := id X
  obtain ⟨hx, hb, hml, hown, hts⟩ := id S0
  unfold PX9_ruleClause at h
  refine lv_aload_n hx hb (kn_dec tX9_ruleClause 0 rfl) rfl (lv_at hl 0 rfl) ?_
  refine kw_callv (wc := [(kModel, ad_m, _)]) (wr := []) I hA [0] [] rfl rfl (by decide) (by decide) (kn_runV (As := []) S0 hK hZ hA I ((ctX9_blanks h).met _) (kn_cwV 0 hts q5_191 q5_193 q0_33 q1_10 q5_194 rfl rfl (by decide +kernel) ⟨(Nat.le_of_ble_eq_true rfl), (Nat.le_of_ble_eq_true rfl)⟩) [0] rfl (by decide) 0 rfl rfl rfl rfl hl.1 rfl (Nat.le_of_ble_eq_true rfl) (kn_dec tX9_ruleClause 1 rfl) ⟨(Nat.le_of_ble_eq_true rfl), (Nat.le_of_ble_eq_true rfl)⟩) (fun u2 H locs h I => ?_)
  have I : kn_I D tc (kn_A _ s.heap.size) s.heap [(kModel, ad_m, _)] _ _ := I
  refine lv_aload_n hx hb (kn_dec tX9_ruleClause 2 rfl) rfl (lv_at hl 0 rfl) ?_
  refine kw_geti hx hb hts inX9 hown hK I 0 rfl rfl 31 (by decide) rfl (hts _ q4_231) (kn_dec tX9_ruleClause 3 rfl) ?_
  refine lv_topi (fun x3 ex3 => ?_)
  have h := h x3 ex3
  refine lv_istore_n (lv' := [(2, .int _), (0, .ref (ad_m 0)), (1, .int _)]) hx hb (kn_dec tX9_ruleClause 4 rfl) rfl hl (by decide) rfl (fun ls hl => ?_)
  refine lv_aload_n hx hb (kn_dec tX9_ruleClause 5 rfl) rfl (lv_at hl 1 rfl) ?_
  refine kw_ldcSw hx hb hown (hZ.1 28 _ rfl).1 (kn_dec tX9_ruleClause 6 rfl) ?_
  refine kw_calli (wc := [(kModel, ad_m, _)]) (wr := []) I hA [0] [] rfl rfl (by decide) (by decide) (kn_runV (As := [.ref (Z.1 28)]) S0 hK hZ hA I ((ctX9_stood h).met _) (kn_cwV 1 hts q5_208 q5_210 q0_35 q1_10 q5_211 rfl rfl (by decide +kernel) ⟨(Nat.le_of_ble_eq_true rfl), (Nat.le_of_ble_eq_true rfl)⟩) [0] rfl (by decide) 0 rfl rfl rfl rfl hl.1 rfl (Nat.le_of_ble_eq_true rfl) (kn_dec tX9_ruleClause 7 rfl) ⟨(Nat.le_of_ble_eq_true rfl), (Nat.le_of_ble_eq_true rfl)⟩) (fun r4 u5 H locs h I => ?_)
  obtain ⟨hz_r4, h⟩ := h
  have I : kn_I D tc (kn_A _ s.heap.size) s.heap [(kModel, ad_m, _)] _ _ := I
  refine lv_if_ne (tgt := 26) hx hb (kn_dec tX9_ruleClause 8 rfl) (by decide) (fun c6 => ?_) (fun c6 => ?_)
  · have h := h.1 c6
    refine lv_iload_n hx hb (kn_dec tX9_ruleClause 14 rfl) rfl (lv_at hl 2 rfl) ?_
    refine lv_bipush (v := (12)) hx hb (kn_dec tX9_ruleClause 15 rfl) (by decide) ?_
    refine lv_icmp_ne (tgt := 39) hx hb (kn_dec tX9_ruleClause 16 rfl) (by decide) (fun c7 => ?_) (fun c7 => ?_)
    · have h := h.1 c7
      refine lv_aload_n hx hb (kn_dec tX9_ruleClause 22 rfl) rfl (lv_at hl 1 rfl) ?_
      refine lv_dup hx hb (kn_dec tX9_ruleClause 23 rfl) rfl ?_
      refine kw_geti hx hb hts inX9 hown hK I 0 rfl rfl 31 (by decide) rfl (hts _ q4_231) (kn_dec tX9_ruleClause 24 rfl) ?_
      refine lv_iconst (v := (4)) hx hb (kn_dec tX9_ruleClause 25 rfl) (by decide) ?_
      refine lv_iadd hx hb (kn_dec tX9_ruleClause 26 rfl) ?_
      refine lv_topi (fun x8 ex8 => ?_)
      have h := h x8 ex8
      refine kw_puti hx hb hts inX9 tyX9 tyX9_ok nmX9 hown hK I 0 rfl rfl 31 (by decide) rfl (hts _ q4_231) rfl rfl rfl (kn_dec tX9_ruleClause 27 rfl) (fun v_m9 ev_m9 H locs I => ?_)
      have h := h v_m9 ev_m9
      have I : kn_I D tc (kn_A _ s.heap.size) s.heap [(kModel, ad_m, _)] _ _ := I
      refine lv_bipush (v := (12)) hx hb (kn_dec tX9_ruleClause 28 rfl) (by decide) ?_
      refine lv_aload_n hx hb (kn_dec tX9_ruleClause 29 rfl) rfl (lv_at hl 1 rfl) ?_
      refine kw_geti hx hb hts inX9 hown hK I 0 rfl rfl 33 (by decide) rfl (hts _ q4_233) (kn_dec tX9_ruleClause 30 rfl) ?_
      refine lv_imul hx hb (kn_dec tX9_ruleClause 31 rfl) ?_
      refine lv_iload_n hx hb (kn_dec tX9_ruleClause 32 rfl) rfl (lv_at hl 2 rfl) ?_
      refine lv_iadd hx hb (kn_dec tX9_ruleClause 33 rfl) ?_
      refine lv_topi (fun x10 ex10 => ?_)
      have h := h x10 ex10
      refine lv_istore_n (lv' := [(3, .int _), (2, .int _), (0, .ref (ad_m 0)), (1, .int _)]) hx hb (kn_dec tX9_ruleClause 34 rfl) rfl hl (by decide) rfl (fun ls hl => ?_)
      refine lv_aload_n hx hb (kn_dec tX9_ruleClause 35 rfl) rfl (lv_at hl 2 rfl) ?_
      refine kw_getl hx hb hts inX9 hown hK I 0 rfl rfl 44 (by decide) rfl (hts _ q5_4) (kn_dec tX9_ruleClause 36 rfl) rfl ?_
      refine lv_iload_n hx hb (kn_dec tX9_ruleClause 37 rfl) rfl (lv_at hl 0 rfl) ?_
      refine lv_aload_n hx hb (kn_dec tX9_ruleClause 38 rfl) rfl (lv_at hl 2 rfl) ?_
      refine kw_geti hx hb hts inX9 hown hK I 0 rfl rfl 35 (by decide) rfl (hts _ q4_235) (kn_dec tX9_ruleClause 39 rfl) ?_
      refine lv_topi (fun x11 ex11 => ?_)
      have h := h x11 ex11
      obtain ⟨hs12, h⟩ := h
      refine kw_iast hx hb hK I 0 rfl 44 72 (List.mem_of_getElem? (i := 33) rfl) ukModel_44 hs12 (kn_dec tX9_ruleClause 40 rfl) (fun v_m13 ev_m13 H locs I => ?_)
      have h := h v_m13 ev_m13
      have I : kn_I D tc (kn_A _ s.heap.size) s.heap [(kModel, ad_m, _)] _ _ := I
      refine lv_aload_n hx hb (kn_dec tX9_ruleClause 41 rfl) rfl (lv_at hl 2 rfl) ?_
      refine kw_callv (wc := [(kModel, ad_m, _)]) (wr := []) I hA [0] [] rfl rfl (by decide) (by decide) (kn_runV (As := []) S0 hK hZ hA I ((ctX9_sum h).met _) (kn_cwV 0 hts q6_28 q6_30 q0_46 q1_10 q6_31 rfl rfl (by decide +kernel) ⟨(Nat.le_of_ble_eq_true rfl), (Nat.le_of_ble_eq_true rfl)⟩) [0] rfl (by decide) 0 rfl rfl rfl rfl hl.1 rfl (Nat.le_of_ble_eq_true rfl) (kn_dec tX9_ruleClause 42 rfl) ⟨(Nat.le_of_ble_eq_true rfl), (Nat.le_of_ble_eq_true rfl)⟩) (fun u15 H locs h I => ?_)
      have I : kn_I D tc (kn_A _ s.heap.size) s.heap [(kModel, ad_m, _)] _ _ := I
      refine lv_aload_n hx hb (kn_dec tX9_ruleClause 43 rfl) rfl (lv_at hl 2 rfl) ?_
      refine kw_getl hx hb hts inX9 hown hK I 0 rfl rfl 45 (by decide) rfl (hts _ q5_5) (kn_dec tX9_ruleClause 44 rfl) rfl ?_
      refine lv_iload_n hx hb (kn_dec tX9_ruleClause 45 rfl) rfl (lv_at hl 0 rfl) ?_
      refine lv_aload_n hx hb (kn_dec tX9_ruleClause 46 rfl) rfl (lv_at hl 2 rfl) ?_
      refine kw_geti hx hb hts inX9 hown hK I 0 rfl rfl 35 (by decide) rfl (hts _ q4_235) (kn_dec tX9_ruleClause 47 rfl) ?_
      refine lv_topi (fun x16 ex16 => ?_)
      have h := h x16 ex16
      obtain ⟨hs17, h⟩ := h
      refine kw_iast hx hb hK I 0 rfl 45 72 (List.mem_of_getElem? (i := 34) rfl) ukModel_45 hs17 (kn_dec tX9_ruleClause 48 rfl) (fun v_m18 ev_m18 H locs I => ?_)
      have h := h v_m18 ev_m18
      have I : kn_I D tc (kn_A _ s.heap.size) s.heap [(kModel, ad_m, _)] _ _ := I
      refine lv_aload_n hx hb (kn_dec tX9_ruleClause 49 rfl) rfl (lv_at hl 2 rfl) ?_
      refine kw_geti hx hb hts inX9 hown hK I 0 rfl rfl 32 (by decide) rfl (hts _ q4_232) (kn_dec tX9_ruleClause 50 rfl) ?_
      refine lv_if_ne (tgt := 104) hx hb (kn_dec tX9_ruleClause 51 rfl) (by decide) (fun c19 => ?_) (fun c19 => ?_)
      · have h := h.1 c19
        exact wX9_ruleClause_b104 X _ _ _ _ _  I (lv_sub hl [2, 0] rfl) h
      · have h := h.2 c19
        refine lv_aload_n hx hb (kn_dec tX9_ruleClause 52 rfl) rfl (lv_at hl 2 rfl) ?_
        refine kw_ldcSw hx hb hown (hZ.1 29 _ rfl).1 (kn_dec tX9_ruleClause 53 rfl) ?_
        refine kw_calli (wc := [(kModel, ad_m, _)]) (wr := []) I hA [0] [] rfl rfl (by decide) (by decide) (kn_runV (As := [.ref (Z.1 29)]) S0 hK hZ hA I ((ctX9_takes h).met _) (kn_cwV 1 hts q6_64 q6_66 q0_51 q1_10 q6_67 rfl rfl (by decide +kernel) ⟨(Nat.le_of_ble_eq_true rfl), (Nat.le_of_ble_eq_true rfl)⟩) [0] rfl (by decide) 0 rfl rfl rfl rfl hl.1 rfl (Nat.le_of_ble_eq_true rfl) (kn_dec tX9_ruleClause 54 rfl) ⟨(Nat.le_of_ble_eq_true rfl), (Nat.le_of_ble_eq_true rfl)⟩) (fun r21 u22 H locs h I => ?_)
        obtain ⟨hz_r21, h⟩ := h
        have I : kn_I D tc (kn_A _ s.heap.size) s.heap [(kModel, ad_m, _)] _ _ := I
        refine lv_if_eq (tgt := 104) hx hb (kn_dec tX9_ruleClause 55 rfl) (by decide) (fun c23 => ?_) (fun c23 => ?_)
        · have h := h.1 c23
          exact wX9_ruleClause_b104 X _ _ _ _ _  I (lv_sub hl [2, 0] rfl) h
        · have h := h.2 c23
          refine lv_aload_n hx hb (kn_dec tX9_ruleClause 56 rfl) rfl (lv_at hl 2 rfl) ?_
          refine kw_callv (wc := [(kModel, ad_m, _)]) (wr := []) I hA [0] [] rfl rfl (by decide) (by decide) (kn_runV (As := []) S0 hK hZ hA I ((ctX9_test h).met _) (kn_cwV 0 hts q6_68 q6_70 q0_52 q1_10 q6_71 rfl rfl (by decide +kernel) ⟨(Nat.le_of_ble_eq_true rfl), (Nat.le_of_ble_eq_true rfl)⟩) [0] rfl (by decide) 0 rfl rfl rfl rfl hl.1 rfl (Nat.le_of_ble_eq_true rfl) (kn_dec tX9_ruleClause 57 rfl) ⟨(Nat.le_of_ble_eq_true rfl), (Nat.le_of_ble_eq_true rfl)⟩) (fun u25 H locs h I => ?_)
          have I : kn_I D tc (kn_A _ s.heap.size) s.heap [(kModel, ad_m, _)] _ _ := I
          exact wX9_ruleClause_b104 X _ _ _ _ _  I (lv_sub hl [2, 0] rfl) h
    · have h := h.2 c7
      refine lv_aload_n hx hb (kn_dec tX9_ruleClause 17 rfl) rfl (lv_at hl 1 rfl) ?_
      refine lv_iconst (v := (4)) hx hb (kn_dec tX9_ruleClause 18 rfl) (by decide) ?_
      refine lv_iload_n hx hb (kn_dec tX9_ruleClause 19 rfl) rfl (lv_at hl 0 rfl) ?_
      refine kw_callv (wc := [(kModel, ad_m, _)]) (wr := []) I hA [0] [] rfl rfl (by decide) (by decide) (kn_runV (As := [.int _, .int _]) S0 hK hZ hA I ((ctX9_fails h).met _) (kn_cwV 2 hts q5_214 q5_216 q0_36 q1_10 q5_217 rfl rfl (by decide +kernel) ⟨(Nat.le_of_ble_eq_true rfl), (Nat.le_of_ble_eq_true rfl)⟩) [0] rfl (by decide) 0 rfl rfl rfl rfl hl.1 rfl (Nat.le_of_ble_eq_true rfl) (kn_dec tX9_ruleClause 20 rfl) ⟨(Nat.le_of_ble_eq_true rfl), (Nat.le_of_ble_eq_true rfl)⟩) (fun u27 H locs h I => ?_)
      have I : kn_I D tc (kn_A _ s.heap.size) s.heap [(kModel, ad_m, _)] _ _ := I
      exact kw_vret hx hb hr hlocks I _ rfl h (kn_dec tX9_ruleClause 21 rfl)
  · have h := h.2 c6
    refine lv_aload_n hx hb (kn_dec tX9_ruleClause 9 rfl) rfl (lv_at hl 1 rfl) ?_
    refine lv_iconst (v := (0)) hx hb (kn_dec tX9_ruleClause 10 rfl) (by decide) ?_
    refine lv_iload_n hx hb (kn_dec tX9_ruleClause 11 rfl) rfl (lv_at hl 0 rfl) ?_
    refine kw_callv (wc := [(kModel, ad_m, _)]) (wr := []) I hA [0] [] rfl rfl (by decide) (by decide) (kn_runV (As := [.int _, .int _]) S0 hK hZ hA I ((ctX9_fails h).met _) (kn_cwV 2 hts q5_214 q5_216 q0_36 q1_10 q5_217 rfl rfl (by decide +kernel) ⟨(Nat.le_of_ble_eq_true rfl), (Nat.le_of_ble_eq_true rfl)⟩) [0] rfl (by decide) 0 rfl rfl rfl rfl hl.1 rfl (Nat.le_of_ble_eq_true rfl) (kn_dec tX9_ruleClause 12 rfl) ⟨(Nat.le_of_ble_eq_true rfl), (Nat.le_of_ble_eq_true rfl)⟩) (fun u29 H locs h I => ?_)
    have I : kn_I D tc (kn_A _ s.heap.size) s.heap [(kModel, ad_m, _)] _ _ := I
    exact kw_vret hx hb hr hlocks I _ rfl h (kn_dec tX9_ruleClause 13 rfl)

/-! X9_rule -/
abbrev rmX9_rule : Room := { frames := 12, cells := 0, slots := 0, locals := 262 }
def PX9_rule_b79   (post : Int32 → OV → Prop) (t1 : Int32) (t2 : Int32) (v_m : OV) : Prop := (∀ x1 : Int32, x1 = (t1 + t2) → (∀ v_m2 : OV, v_m2 = si v_m 34 x1 → (((v_m2.1 32) ≤ ((0 : Int32)) → post ((v_m2.1 34) - ((1 : Int32))) v_m2) ∧ (¬ (v_m2.1 32) ≤ ((0 : Int32)) → post (((-2 : Int32)) - (v_m2.1 32)) v_m2))))
set_option maxRecDepth 100000 in
set_option maxHeartbeats 1000000 in
theorem wX9_rule_b79   {post : Int32 → OV → Prop} {ad_m : Nat → Nat} (X : kn_X p s m args meth c cX9_rule 3 (some .int) RX9 kn_all D tc Z (kn_A w0 s.heap.size))    : ∀ (H : Heap) (locs : List Loc) (ls : Array Slot) (t1 : Int32) (t2 : Int32) (v_m : OV), (hz_t2 : t2 = 0 ∨ t2 = 1) → kn_I D tc (kn_A w0 s.heap.size) s.heap [(kModel, ad_m, v_m)] H locs → lv_has ls 3 [(0, .ref (ad_m 0))] → PX9_rule_b79 post t1 t2 v_m → W p l e rmX9_rule s m args below meth c H locs 0 0 (kn_Qi D tc w0 (fun (u : OV) => [(kModel, ad_m, u)]) (fun (r : Int32) (u : OV) => post r u) below args s 0 0) (F0 m 79 ls [.int t2, .int t1, .ref (ad_m 0)]) := by
  obtain ⟨S0, hr, hlocks, hK, hZ, hA⟩ := id X
  obtain ⟨hx, hb, hml, hown, hts⟩ := id S0
  intro H locs ls t1 t2 v_m hz_t2 I hl h
  unfold PX9_rule_b79 at h
  refine lv_iadd hx hb (kn_dec tX9_rule 44 rfl) ?_
  refine lv_topi (fun x1 ex1 => ?_)
  have h := h x1 ex1
  refine kw_puti hx hb hts inX9 tyX9 tyX9_ok nmX9 hown hK I 0 rfl rfl 34 (by decide) rfl (hts _ q4_234) rfl rfl rfl (kn_dec tX9_rule 45 rfl) (fun v_m2 ev_m2 H locs I => ?_)
  have h := h v_m2 ev_m2
  have I : kn_I D tc (kn_A w0 s.heap.size) s.heap [(kModel, ad_m, _)] _ _ := I
  refine lv_aload_n hx hb (kn_dec tX9_rule 46 rfl) rfl (lv_at hl 0 rfl) ?_
  refine kw_geti hx hb hts inX9 hown hK I 0 rfl rfl 32 (by decide) rfl (hts _ q4_232) (kn_dec tX9_rule 47 rfl) ?_
  refine lv_if_le (tgt := 100) hx hb (kn_dec tX9_rule 48 rfl) (by decide) (fun c3 => ?_) (fun c3 => ?_)
  · have h := h.1 c3
    refine lv_aload_n hx hb (kn_dec tX9_rule 54 rfl) rfl (lv_at hl 0 rfl) ?_
    refine kw_geti hx hb hts inX9 hown hK I 0 rfl rfl 34 (by decide) rfl (hts _ q4_234) (kn_dec tX9_rule 55 rfl) ?_
    refine lv_iconst (v := (1)) hx hb (kn_dec tX9_rule 56 rfl) (by decide) ?_
    refine lv_isub hx hb (kn_dec tX9_rule 57 rfl) ?_
    exact kw_iret hx hb hr hlocks I _ rfl h (kn_dec tX9_rule 58 rfl)
  · have h := h.2 c3
    refine lv_bipush (v := (-2)) hx hb (kn_dec tX9_rule 49 rfl) (by decide) ?_
    refine lv_aload_n hx hb (kn_dec tX9_rule 50 rfl) rfl (lv_at hl 0 rfl) ?_
    refine kw_geti hx hb hts inX9 hown hK I 0 rfl rfl 32 (by decide) rfl (hts _ q4_232) (kn_dec tX9_rule 51 rfl) ?_
    refine lv_isub hx hb (kn_dec tX9_rule 52 rfl) ?_
    refine lv_goto (tgt := 106) hx hb (kn_dec tX9_rule 53 rfl) (by decide) ?_
    exact kw_iret hx hb hr hlocks I _ rfl h (kn_dec tX9_rule 58 rfl)
def PX9_rule_L27   (post : Int32 → OV → Prop) : Nat → Int32 → Int32 → OV → Prop
  | 0, _, _, _ => False
  | n + 1, y1, y2, v_m => ((y2 = ((0 : Int32)) → (∀ v_m2 : OV, v_m2 = si v_m 30 ((0 : Int32)) → (vp_in (v_m2.1 33) 6 ∧ (∀ v_m4 : OV, v_m4 = sa v_m2 43 (upd (v_m2.2.1 43) (v_m2.1 33).toNatClampNeg y1) → ((¬ (v_m4.1 32) = ((0 : Int32)) → PX9_rule_b79 post (v_m4.1 34) ((0 : Int32)) v_m4) ∧ ((v_m4.1 32) = ((0 : Int32)) → PX9_rule_b79 post (v_m4.1 34) ((1 : Int32)) v_m4)))))) ∧ (¬ y2 = ((0 : Int32)) → (PX9_ruleClause v_m y1 (fun v_m6 => (∀ x8 : Int32, x8 = y1 + (1 : Int32) → (PX9_goesOn v_m6 (fun r10 v_m9 => PX9_rule_L27 post n x8 r10 v_m9)))))))
set_option maxRecDepth 100000 in
set_option maxHeartbeats 1000000 in
theorem wX9_rule_L27   {post : Int32 → OV → Prop} {ad_m : Nat → Nat} (X : kn_X p s m args meth c cX9_rule 3 (some .int) RX9 kn_all D tc Z (kn_A w0 s.heap.size))    : ∀ n : Nat, ∀ (H : Heap) (locs : List Loc) (ls : Array Slot) (y1 : Int32) (y2 : Int32) (v_m : OV), (hz_y2 : y2 = 0 ∨ y2 = 1) → kn_I D tc (kn_A w0 s.heap.size) s.heap [(kModel, ad_m, v_m)] H locs → lv_has ls 3 [(0, .ref (ad_m 0)), (1, .int y1), (2, .int y2)] → PX9_rule_L27 post n y1 y2 v_m → W p l e rmX9_rule s m args below meth c H locs 0 0 (kn_Qi D tc w0 (fun (u : OV) => [(kModel, ad_m, u)]) (fun (r : Int32) (u : OV) => post r u) below args s 0 0) (F0 m 27 ls []) := by
  obtain ⟨S0, hr, hlocks, hK, hZ, hA⟩ := id X
  obtain ⟨hx, hb, hml, hown, hts⟩ := id S0
  intro n
  induction n with
  | zero =>
    intro H locs ls y1 y2 v_m hz_y2 I hl h
    unfold PX9_rule_L27 at h
    exact h.elim
  | succ n ih =>
    intro H locs ls y1 y2 v_m hz_y2 I hl h
    unfold PX9_rule_L27 at h
    refine lv_iload_n hx hb (kn_dec tX9_rule 16 rfl) rfl (lv_at hl 2 rfl) ?_
    refine lv_if_eq (tgt := 47) hx hb (kn_dec tX9_rule 17 rfl) (by decide) (fun c1 => ?_) (fun c1 => ?_)
    · have h := h.1 c1
      refine lv_aload_n hx hb (kn_dec tX9_rule 26 rfl) rfl (lv_at hl 0 rfl) ?_
      refine lv_iconst (v := (0)) hx hb (kn_dec tX9_rule 27 rfl) (by decide) ?_
      refine kw_puti hx hb hts inX9 tyX9 tyX9_ok nmX9 hown hK I 0 rfl rfl 30 (by decide) rfl (hts _ q4_230) rfl rfl rfl (kn_dec tX9_rule 28 rfl) (fun v_m2 ev_m2 H locs I => ?_)
      have h := h v_m2 ev_m2
      have I : kn_I D tc (kn_A w0 s.heap.size) s.heap [(kModel, ad_m, _)] _ _ := I
      refine lv_aload_n hx hb (kn_dec tX9_rule 29 rfl) rfl (lv_at hl 0 rfl) ?_
      refine kw_getl hx hb hts inX9 hown hK I 0 rfl rfl 43 (by decide) rfl (hts _ q5_3) (kn_dec tX9_rule 30 rfl) rfl ?_
      refine lv_aload_n hx hb (kn_dec tX9_rule 31 rfl) rfl (lv_at hl 0 rfl) ?_
      refine kw_geti hx hb hts inX9 hown hK I 0 rfl rfl 33 (by decide) rfl (hts _ q4_233) (kn_dec tX9_rule 32 rfl) ?_
      refine lv_iload_n hx hb (kn_dec tX9_rule 33 rfl) rfl (lv_at hl 1 rfl) ?_
      obtain ⟨hs3, h⟩ := h
      refine kw_iast hx hb hK I 0 rfl 43 6 (List.mem_of_getElem? (i := 32) rfl) ukModel_43 hs3 (kn_dec tX9_rule 34 rfl) (fun v_m4 ev_m4 H locs I => ?_)
      have h := h v_m4 ev_m4
      have I : kn_I D tc (kn_A w0 s.heap.size) s.heap [(kModel, ad_m, _)] _ _ := I
      refine lv_aload_n hx hb (kn_dec tX9_rule 35 rfl) rfl (lv_at hl 0 rfl) ?_
      refine lv_dup hx hb (kn_dec tX9_rule 36 rfl) rfl ?_
      refine kw_geti hx hb hts inX9 hown hK I 0 rfl rfl 34 (by decide) rfl (hts _ q4_234) (kn_dec tX9_rule 37 rfl) ?_
      refine lv_aload_n hx hb (kn_dec tX9_rule 38 rfl) rfl (lv_at hl 0 rfl) ?_
      refine kw_geti hx hb hts inX9 hown hK I 0 rfl rfl 32 (by decide) rfl (hts _ q4_232) (kn_dec tX9_rule 39 rfl) ?_
      refine lv_if_ne (tgt := 78) hx hb (kn_dec tX9_rule 40 rfl) (by decide) (fun c5 => ?_) (fun c5 => ?_)
      · have h := h.1 c5
        refine lv_iconst (v := (0)) hx hb (kn_dec tX9_rule 43 rfl) (by decide) ?_
        exact wX9_rule_b79 X _ _ _ _ _ _ (Or.inl rfl) I (lv_sub hl [0] rfl) h
      · have h := h.2 c5
        refine lv_iconst (v := (1)) hx hb (kn_dec tX9_rule 41 rfl) (by decide) ?_
        refine lv_goto (tgt := 79) hx hb (kn_dec tX9_rule 42 rfl) (by decide) ?_
        exact wX9_rule_b79 X _ _ _ _ _ _ (Or.inr rfl) I (lv_sub hl [0] rfl) h
    · have h := h.2 c1
      refine lv_aload_n hx hb (kn_dec tX9_rule 18 rfl) rfl (lv_at hl 0 rfl) ?_
      refine lv_iload_n hx hb (kn_dec tX9_rule 19 rfl) rfl (lv_at hl 1 rfl) ?_
      refine kw_callv (wc := [(kModel, ad_m, _)]) (wr := []) I hA [0] [] rfl rfl (by decide) (by decide) (kn_runV (As := [.int _]) S0 hK hZ hA I ((ctX9_ruleClause h).met _) (kn_cwV 1 hts q6_23 q6_25 q0_45 q1_10 q6_26 rfl rfl (by decide +kernel) ⟨(Nat.le_of_ble_eq_true rfl), (Nat.le_of_ble_eq_true rfl)⟩) [0] rfl (by decide) 0 rfl rfl rfl rfl hl.1 rfl (Nat.le_of_ble_eq_true rfl) (kn_dec tX9_rule 20 rfl) ⟨(Nat.le_of_ble_eq_true rfl), (Nat.le_of_ble_eq_true rfl)⟩) (fun u7 H locs h I => ?_)
      have I : kn_I D tc (kn_A w0 s.heap.size) s.heap [(kModel, ad_m, _)] _ _ := I
      refine kw_iinc (lvf := fun y => [(1, .int y), (0, .ref (ad_m 0)), (2, .int _)]) (nv := (1)) hx hb (kn_dec tX9_rule 21 rfl) hl (k := 1) rfl (by decide) (by decide) (fun _ => rfl) (fun x8 ex8 ls hl => ?_)
      have h := h x8 ex8
      refine lv_aload_n hx hb (kn_dec tX9_rule 22 rfl) rfl (lv_at hl 1 rfl) ?_
      refine kw_calli (wc := [(kModel, ad_m, _)]) (wr := []) I hA [0] [] rfl rfl (by decide) (by decide) (kn_runV (As := []) S0 hK hZ hA I ((ctX9_goesOn h).met _) (kn_cwV 0 hts q6_8 q6_10 q0_43 q1_10 q6_11 rfl rfl (by decide +kernel) ⟨(Nat.le_of_ble_eq_true rfl), (Nat.le_of_ble_eq_true rfl)⟩) [0] rfl (by decide) 0 rfl rfl rfl rfl hl.1 rfl (Nat.le_of_ble_eq_true rfl) (kn_dec tX9_rule 23 rfl) ⟨(Nat.le_of_ble_eq_true rfl), (Nat.le_of_ble_eq_true rfl)⟩) (fun r10 u11 H locs h I => ?_)
      obtain ⟨hz_r10, h⟩ := h
      have I : kn_I D tc (kn_A w0 s.heap.size) s.heap [(kModel, ad_m, _)] _ _ := I
      refine lv_istore_n (lv' := [(2, .int _), (1, .int _), (0, .ref (ad_m 0))]) hx hb (kn_dec tX9_rule 24 rfl) rfl hl (by decide) rfl (fun ls hl => ?_)
      refine lv_goto (tgt := 27) hx hb (kn_dec tX9_rule 25 rfl) (by decide) ?_
      exact ih _ _ _ _ _ _ hz_r10 I (lv_sub hl [2, 1, 0] rfl) h
def PX9_rule  (v_m : OV) (post : Int32 → OV → Prop) : Prop := ((¬ (v_m.1 34) = ((6 : Int32)) → (∀ x2 : Int32, x2 = (v_m.1 34) → (∀ v_m3 : OV, v_m3 = si v_m 33 x2 → (PX9_starts v_m3 (fun v_m4 => (∃ n6 : Nat, PX9_rule_L27 post n6 ((0 : Int32)) ((1 : Int32)) v_m4)))))) ∧ ((v_m.1 34) = ((6 : Int32)) → post ((-1 : Int32)) v_m))
set_option maxRecDepth 100000 in
set_option maxHeartbeats 1000000 in
theorem ctX9_rule {l : Launch} {D : va_G} {tc : Nat → ClassId} {Z : (Nat → Nat) × (Nat → Nat)}  {ad_m : Nat → Nat} {v_m : OV}    {post : Int32 → OV → Prop} (h : PX9_rule  v_m post) : CTi l D tc Z yX9_rule (Cond.code yX9_rule cX9_rule 3 (some .int) :: kn_all) rmX9_rule 0 0 [.ref (ad_m 0)] [(kModel, ad_m, v_m)] (fun (u : OV) => [(kModel, ad_m, u)]) (fun (r : Int32) (u : OV) => post r u) := by
  refine kn_ofi (cc := cX9_rule) (nL := 3) (ret := (some .int)) (lv := [(0, .ref (ad_m 0))]) (by decide) (Nat.le_of_ble_eq_true rfl) rfl (fun p e s m below meth c ls X I hl _ => ?_)
  obtain ⟨S0, hr, hlocks, hK, hZ, hA⟩ := id X
  obtain ⟨hx, hb, hml, hown, hts⟩ := id S0
  unfold PX9_rule at h
  refine lv_aload_n hx hb (kn_dec tX9_rule 0 rfl) rfl (lv_at hl 0 rfl) ?_
  refine kw_geti hx hb hts inX9 hown hK I 0 rfl rfl 34 (by decide) rfl (hts _ q4_234) (kn_dec tX9_rule 1 rfl) ?_
  refine lv_bipush (v := (6)) hx hb (kn_dec tX9_rule 2 rfl) (by decide) ?_
  refine lv_icmp_ne (tgt := 11) hx hb (kn_dec tX9_rule 3 rfl) (by decide) (fun c1 => ?_) (fun c1 => ?_)
  · have h := h.1 c1
    refine lv_aload_n hx hb (kn_dec tX9_rule 6 rfl) rfl (lv_at hl 0 rfl) ?_
    refine lv_aload_n hx hb (kn_dec tX9_rule 7 rfl) rfl (lv_at hl 0 rfl) ?_
    refine kw_geti hx hb hts inX9 hown hK I 0 rfl rfl 34 (by decide) rfl (hts _ q4_234) (kn_dec tX9_rule 8 rfl) ?_
    refine lv_topi (fun x2 ex2 => ?_)
    have h := h x2 ex2
    refine kw_puti hx hb hts inX9 tyX9 tyX9_ok nmX9 hown hK I 0 rfl rfl 33 (by decide) rfl (hts _ q4_233) rfl rfl rfl (kn_dec tX9_rule 9 rfl) (fun v_m3 ev_m3 H locs I => ?_)
    have h := h v_m3 ev_m3
    have I : kn_I D tc (kn_A _ s.heap.size) s.heap [(kModel, ad_m, _)] _ _ := I
    refine lv_aload_n hx hb (kn_dec tX9_rule 10 rfl) rfl (lv_at hl 0 rfl) ?_
    refine kw_callv (wc := [(kModel, ad_m, _)]) (wr := []) I hA [0] [] rfl rfl (by decide) (by decide) (kn_runV (As := []) S0 hK hZ hA I ((ctX9_starts h).met _) (kn_cwV 0 hts q5_183 q5_185 q0_31 q1_10 q5_186 rfl rfl (by decide +kernel) ⟨(Nat.le_of_ble_eq_true rfl), (Nat.le_of_ble_eq_true rfl)⟩) [0] rfl (by decide) 0 rfl rfl rfl rfl hl.1 rfl (Nat.le_of_ble_eq_true rfl) (kn_dec tX9_rule 11 rfl) ⟨(Nat.le_of_ble_eq_true rfl), (Nat.le_of_ble_eq_true rfl)⟩) (fun u5 H locs h I => ?_)
    have I : kn_I D tc (kn_A _ s.heap.size) s.heap [(kModel, ad_m, _)] _ _ := I
    refine lv_iconst (v := (0)) hx hb (kn_dec tX9_rule 12 rfl) (by decide) ?_
    refine lv_istore_n (lv' := [(1, .int _), (0, .ref (ad_m 0))]) hx hb (kn_dec tX9_rule 13 rfl) rfl hl (by decide) rfl (fun ls hl => ?_)
    refine lv_iconst (v := (1)) hx hb (kn_dec tX9_rule 14 rfl) (by decide) ?_
    refine lv_istore_n (lv' := [(2, .int _), (1, .int _), (0, .ref (ad_m 0))]) hx hb (kn_dec tX9_rule 15 rfl) rfl hl (by decide) rfl (fun ls hl => ?_)
    obtain ⟨n6, h⟩ := h
    exact wX9_rule_L27 X n6 _ _ _ _ _ _ (Or.inr rfl) I (lv_sub hl [2, 1, 0] rfl) h
  · have h := h.2 c1
    refine lv_iconst (v := (-1)) hx hb (kn_dec tX9_rule 4 rfl) (by decide) ?_
    exact kw_iret hx hb hr hlocks I _ rfl h (kn_dec tX9_rule 5 rfl)

end
