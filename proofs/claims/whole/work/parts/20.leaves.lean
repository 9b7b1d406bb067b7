section
variable {p : Program} {l : Launch} {e : Env} {s : State} {m : MethodId} {args : Array Value} {below : List Frame} {meth : Method} {c : Code} {D : va_G} {tc : Nat → ClassId} {Z : (Nat → Nat) × (Nat → Nat)} {w0 : List CH}

/-! X0_minutes -/
abbrev rmX0_minutes : Room := { frames := 1, cells := 0, slots := 0, locals := 64 }
def PX0_minutes (v_h : OV) (v_s : OV) (a2 : Int32) (a3 : Int32) (post : Int32 → Prop) : Prop := (vp_in a3 10 ∧ (vp_in a2 4 ∧ (vp_in a3 10 ∧ post (if ((1 : Int32)) < (((v_h.2.1 6 a3.toNatClampNeg) - (v_h.2.1 12 a2.toNatClampNeg)) - ((v_s.2.1 3 a3.toNatClampNeg) / ((4 : Int32)))) then (((v_h.2.1 6 a3.toNatClampNeg) - (v_h.2.1 12 a2.toNatClampNeg)) - ((v_s.2.1 3 a3.toNatClampNeg) / ((4 : Int32)))) else ((1 : Int32))))))
set_option maxRecDepth 100000 in
set_option maxHeartbeats 100000 in
theorem ctX0_minutes {l : Launch} {D : va_G} {tc : Nat → ClassId} {Z : (Nat → Nat) × (Nat → Nat)} {ad_h : Nat → Nat} {ad_s : Nat → Nat} {v_h : OV} {v_s : OV} {a2 : Int32} {a3 : Int32}   {post : Int32 → Prop} (h : PX0_minutes v_h v_s a2 a3 post) : CTi l D tc Z yX0_minutes (Cond.code yX0_minutes cX0_minutes 4 (some .int) :: kn_all) rmX0_minutes 0 0 [.ref (ad_h 0), .ref (ad_s 0), .int a2, .int a3] [(kHill, ad_h, v_h), (kState, ad_s, v_s)] (fun (u : Unit) => [(kHill, ad_h, v_h), (kState, ad_s, v_s)]) (fun (r : Int32) (u : Unit) => post r) := by
  refine kn_ofi (cc := cX0_minutes) (nL := 4) (ret := (some .int)) (lv := [(0, .ref (ad_h 0)), (1, .ref (ad_s 0)), (2, .int a2), (3, .int a3)]) (by decide) (Nat.le_of_ble_eq_true rfl) rfl (fun p e s m below meth c ls X I hl _ => ?_)
  obtain ⟨S0, hr, hlocks, hK, hZ, hA⟩ := id X
  obtain ⟨hx, hb, hml, hown, hts⟩ := id S0
  unfold PX0_minutes at h
  refine lv_iconst (v := (1)) hx hb (kn_dec tX0_minutes 0 rfl) (by decide) ?_
  refine lv_aload_n hx hb (kn_dec tX0_minutes 1 rfl) rfl (lv_at hl 0 rfl) ?_
  refine kw_getl hx hb hts inX0 hown hK I 0 rfl rfl 6 (by decide) rfl (hts _ q1_137) (kn_dec tX0_minutes 2 rfl) rfl ?_
  refine lv_iload_n hx hb (kn_dec tX0_minutes 3 rfl) rfl (lv_at hl 3 rfl) ?_
  obtain ⟨hs1, h⟩ := h
  refine kw_iald hx hb hK I 0 rfl 6 10 (List.mem_of_getElem? (i := 1) rfl) hs1 (kn_dec tX0_minutes 4 rfl) ?_
  refine lv_aload_n hx hb (kn_dec tX0_minutes 5 rfl) rfl (lv_at hl 0 rfl) ?_
  refine kw_getl hx hb hts inX0 hown hK I 0 rfl rfl 12 (by decide) rfl (hts _ q1_157) (kn_dec tX0_minutes 6 rfl) rfl ?_
  refine lv_iload_n hx hb (kn_dec tX0_minutes 7 rfl) rfl (lv_at hl 2 rfl) ?_
  obtain ⟨hs2, h⟩ := h
  refine kw_iald hx hb hK I 0 rfl 12 4 (List.mem_of_getElem? (i := 4) rfl) hs2 (kn_dec tX0_minutes 8 rfl) ?_
  refine lv_isub hx hb (kn_dec tX0_minutes 9 rfl) ?_
  refine lv_aload_n hx hb (kn_dec tX0_minutes 10 rfl) rfl (lv_at hl 1 rfl) ?_
  refine kw_getl hx hb hts inX6 hown hK I 1 rfl rfl 3 (by decide) rfl (hts _ q1_229) (kn_dec tX0_minutes 11 rfl) rfl ?_
  refine lv_iload_n hx hb (kn_dec tX0_minutes 12 rfl) rfl (lv_at hl 3 rfl) ?_
  obtain ⟨hs3, h⟩ := h
  refine kw_iald hx hb hK I 1 rfl 3 10 (List.mem_of_getElem? (i := 0) rfl) hs3 (kn_dec tX0_minutes 13 rfl) ?_
  refine lv_iconst (v := (4)) hx hb (kn_dec tX0_minutes 14 rfl) (by decide) ?_
  refine lv_idiv hx hb (kn_dec tX0_minutes 15 rfl) (by decide) ?_
  refine lv_isub hx hb (kn_dec tX0_minutes 16 rfl) ?_
  refine va_mmax hx hb (hml.trans hl.1.symm) hown (hts _ q3_220) (hts _ q3_221) (hts _ q1_11) (hts _ q3_222) (Nat.le_of_ble_eq_true rfl) (Nat.le_of_ble_eq_true rfl) (Nat.le_of_ble_eq_true rfl) (Nat.le_of_ble_eq_true rfl) (kn_dec tX0_minutes 17 rfl) ?_
  exact kw_iret hx hb hr hlocks I () rfl h (kn_dec tX0_minutes 18 rfl)

end
