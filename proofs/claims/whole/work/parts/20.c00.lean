section
variable {p : Program} {l : Launch} {e : Env} {s : State} {m : MethodId} {args : Array Value} {below : List Frame} {meth : Method} {c : Code} {D : va_G} {tc : Nat → ClassId} {Z : (Nat → Nat) × (Nat → Nat)} {w0 : List CH}

/-! J6_bitCount_0f7a4 -/
abbrev rmJ6_bitCount_0f7a4 : Room := { frames := 0, cells := 0, slots := 0, locals := 0 }
def PJ6_bitCount_0f7a4  (a0 : Int32) (post : Int32 → Prop) : Prop := (∀ x1 : Int32, x1 = (a0 - (((a0.toUInt32 >>> (((1 : Int32)).toUInt32 &&& Int32.toUInt32 31)).toInt32) &&& ((1431655765 : Int32)))) → (∀ x2 : Int32, x2 = ((x1 &&& ((858993459 : Int32))) + (((x1.toUInt32 >>> (((2 : Int32)).toUInt32 &&& Int32.toUInt32 31)).toInt32) &&& ((858993459 : Int32)))) → (∀ x3 : Int32, x3 = ((x2 + ((x2.toUInt32 >>> (((4 : Int32)).toUInt32 &&& Int32.toUInt32 31)).toInt32)) &&& ((252645135 : Int32))) → (∀ x4 : Int32, x4 = (x3 + ((x3.toUInt32 >>> (((8 : Int32)).toUInt32 &&& Int32.toUInt32 31)).toInt32)) → (∀ x5 : Int32, x5 = (x4 + ((x4.toUInt32 >>> (((16 : Int32)).toUInt32 &&& Int32.toUInt32 31)).toInt32)) → post (x5 &&& ((63 : Int32))))))))
set_option maxRecDepth 100000 in
set_option maxHeartbeats 1000000 in
theorem ctJ6_bitCount_0f7a4 {l : Launch} {D : va_G} {tc : Nat → ClassId} {Z : (Nat → Nat) × (Nat → Nat)}   {a0 : Int32}    {post : Int32 → Prop} (h : PJ6_bitCount_0f7a4  a0 post) : CTi l D tc Z yJ6_bitCount_0f7a4 (Cond.code yJ6_bitCount_0f7a4 cJ6_bitCount_0f7a4 1 (some .int) :: kn_all) rmJ6_bitCount_0f7a4 0 0 [.int a0] [] (fun (u : Unit) => []) (fun (r : Int32) (u : Unit) => post r) := by
  refine kn_ofi (cc := cJ6_bitCount_0f7a4) (nL := 1) (ret := (some .int)) (lv := [(0, .int a0)]) (by decide) (Nat.le_of_ble_eq_true rfl) rfl (fun p e s m below meth c ls X I hl _ => ?_)
  obtain ⟨S0, hr, hlocks, hK, hZ, hA⟩ := id X
  obtain ⟨hx, hb, hml, hown, hts⟩ := id S0
  unfold PJ6_bitCount_0f7a4 at h
  refine lv_iload_n hx hb (kn_dec tJ6_bitCount_0f7a4 0 rfl) rfl (lv_at hl 0 rfl) ?_
  refine lv_iload_n hx hb (kn_dec tJ6_bitCount_0f7a4 1 rfl) rfl (lv_at hl 0 rfl) ?_
  refine lv_iconst (v := (1)) hx hb (kn_dec tJ6_bitCount_0f7a4 2 rfl) (by decide) ?_
  refine lv_iushr hx hb (kn_dec tJ6_bitCount_0f7a4 3 rfl) rfl ?_
  refine lv_ldcw (v := (1431655765)) hx hb hown (hts _ q3_206) (kn_dec tJ6_bitCount_0f7a4 4 rfl) ?_
  refine lv_iand hx hb (kn_dec tJ6_bitCount_0f7a4 5 rfl) ?_
  refine lv_isub hx hb (kn_dec tJ6_bitCount_0f7a4 6 rfl) ?_
  refine lv_topi (fun x1 ex1 => ?_)
  have h := h x1 ex1
  refine lv_istore_n (lv' := [(0, .int _)]) hx hb (kn_dec tJ6_bitCount_0f7a4 7 rfl) rfl hl (by decide) rfl (fun ls hl => ?_)
  refine lv_iload_n hx hb (kn_dec tJ6_bitCount_0f7a4 8 rfl) rfl (lv_at hl 0 rfl) ?_
  refine lv_ldcw (v := (858993459)) hx hb hown (hts _ q3_207) (kn_dec tJ6_bitCount_0f7a4 9 rfl) ?_
  refine lv_iand hx hb (kn_dec tJ6_bitCount_0f7a4 10 rfl) ?_
  refine lv_iload_n hx hb (kn_dec tJ6_bitCount_0f7a4 11 rfl) rfl (lv_at hl 0 rfl) ?_
  refine lv_iconst (v := (2)) hx hb (kn_dec tJ6_bitCount_0f7a4 12 rfl) (by decide) ?_
  refine lv_iushr hx hb (kn_dec tJ6_bitCount_0f7a4 13 rfl) rfl ?_
  refine lv_ldcw (v := (858993459)) hx hb hown (hts _ q3_207) (kn_dec tJ6_bitCount_0f7a4 14 rfl) ?_
  refine lv_iand hx hb (kn_dec tJ6_bitCount_0f7a4 15 rfl) ?_
  refine lv_iadd hx hb (kn_dec tJ6_bitCount_0f7a4 16 rfl) ?_
  refine lv_topi (fun x2 ex2 => ?_)
  have h := h x2 ex2
  refine lv_istore_n (lv' := [(0, .int _)]) hx hb (kn_dec tJ6_bitCount_0f7a4 17 rfl) rfl hl (by decide) rfl (fun ls hl => ?_)
  refine lv_iload_n hx hb (kn_dec tJ6_bitCount_0f7a4 18 rfl) rfl (lv_at hl 0 rfl) ?_
  refine lv_iload_n hx hb (kn_dec tJ6_bitCount_0f7a4 19 rfl) rfl (lv_at hl 0 rfl) ?_
  refine lv_iconst (v := (4)) hx hb (kn_dec tJ6_bitCount_0f7a4 20 rfl) (by decide) ?_
  refine lv_iushr hx hb (kn_dec tJ6_bitCount_0f7a4 21 rfl) rfl ?_
  refine lv_iadd hx hb (kn_dec tJ6_bitCount_0f7a4 22 rfl) ?_
  refine lv_ldcw (v := (252645135)) hx hb hown (hts _ q3_208) (kn_dec tJ6_bitCount_0f7a4 23 rfl) ?_
  refine lv_iand hx hb (kn_dec tJ6_bitCount_0f7a4 24 rfl) ?_
  refine lv_topi (fun x3 ex3 => ?_)
  have h := h x3 ex3
  refine lv_istore_n (lv' := [(0, .int _)]) hx hb (kn_dec tJ6_bitCount_0f7a4 25 rfl) rfl hl (by decide) rfl (fun ls hl => ?_)
  refine lv_iload_n hx hb (kn_dec tJ6_bitCount_0f7a4 26 rfl) rfl (lv_at hl 0 rfl) ?_
  refine lv_iload_n hx hb (kn_dec tJ6_bitCount_0f7a4 27 rfl) rfl (lv_at hl 0 rfl) ?_
  refine lv_bipush (v := (8)) hx hb (kn_dec tJ6_bitCount_0f7a4 28 rfl) (by decide) ?_
  refine lv_iushr hx hb (kn_dec tJ6_bitCount_0f7a4 29 rfl) rfl ?_
  refine lv_iadd hx hb (kn_dec tJ6_bitCount_0f7a4 30 rfl) ?_
  refine lv_topi (fun x4 ex4 => ?_)
  have h := h x4 ex4
  refine lv_istore_n (lv' := [(0, .int _)]) hx hb (kn_dec tJ6_bitCount_0f7a4 31 rfl) rfl hl (by decide) rfl (fun ls hl => ?_)
  refine lv_iload_n hx hb (kn_dec tJ6_bitCount_0f7a4 32 rfl) rfl (lv_at hl 0 rfl) ?_
  refine lv_iload_n hx hb (kn_dec tJ6_bitCount_0f7a4 33 rfl) rfl (lv_at hl 0 rfl) ?_
  refine lv_bipush (v := (16)) hx hb (kn_dec tJ6_bitCount_0f7a4 34 rfl) (by decide) ?_
  refine lv_iushr hx hb (kn_dec tJ6_bitCount_0f7a4 35 rfl) rfl ?_
  refine lv_iadd hx hb (kn_dec tJ6_bitCount_0f7a4 36 rfl) ?_
  refine lv_topi (fun x5 ex5 => ?_)
  have h := h x5 ex5
  refine lv_istore_n (lv' := [(0, .int _)]) hx hb (kn_dec tJ6_bitCount_0f7a4 37 rfl) rfl hl (by decide) rfl (fun ls hl => ?_)
  refine lv_iload_n hx hb (kn_dec tJ6_bitCount_0f7a4 38 rfl) rfl (lv_at hl 0 rfl) ?_
  refine lv_bipush (v := (63)) hx hb (kn_dec tJ6_bitCount_0f7a4 39 rfl) (by decide) ?_
  refine lv_iand hx hb (kn_dec tJ6_bitCount_0f7a4 40 rfl) ?_
  exact kw_iret hx hb hr hlocks I () rfl h (kn_dec tJ6_bitCount_0f7a4 41 rfl)

/-! J0_coder_7d493 -/
abbrev rmJ0_coder_7d493 : Room := { frames := 0, cells := 0, slots := 0, locals := 0 }
def PJ0_coder_7d493  (s0 : Nat) (post : Int32 → Prop) : Prop := ((((1 : Int32)) = ((0 : Int32)) → post ((1 : Int32))) ∧ (¬ ((1 : Int32)) = ((0 : Int32)) → (s0 < 30 ∧ post ((0 : Int32)))))
set_option maxRecDepth 100000 in
set_option maxHeartbeats 1000000 in
theorem ctJ0_coder_7d493 {l : Launch} {D : va_G} {tc : Nat → ClassId} {Z : (Nat → Nat) × (Nat → Nat)}   {s0 : Nat}    {post : Int32 → Prop} (h : PJ0_coder_7d493  s0 post) : CTi l D tc Z yJ0_coder_7d493 (Cond.code yJ0_coder_7d493 cJ0_coder_7d493 1 (some .byte) :: kn_all) rmJ0_coder_7d493 0 0 [.ref (Z.1 s0)] [] (fun (u : Unit) => []) (fun (r : Int32) (u : Unit) => narrow .byte (.int r) = .int r ∧ post r) := by
  refine kn_ofi (cc := cJ0_coder_7d493) (nL := 1) (ret := (some .byte)) (lv := [(0, .ref (Z.1 s0))]) (by decide) (Nat.le_of_ble_eq_true rfl) rfl (fun p e s m below meth c ls X I hl _ => ?_)
  obtain ⟨S0, hr, hlocks, hK, hZ, hA⟩ := id X
  obtain ⟨hx, hb, hml, hown, hts⟩ := id S0
  unfold PJ0_coder_7d493 at h
  refine va_gets hx hb hZ.2.1 I.2.2 hown (hts _ q2_190) (fun _ h => h) (kn_dec tJ0_coder_7d493 0 rfl) ?_
  refine lv_if_eq (tgt := 13) hx hb (kn_dec tJ0_coder_7d493 1 rfl) (by decide) (fun c1 => ?_) (fun c1 => ?_)
  · have h := h.1 c1
    refine lv_iconst (v := (1)) hx hb (kn_dec tJ0_coder_7d493 5 rfl) (by decide) ?_
    exact kw_zret hx hb hr rfl hlocks I () rfl ⟨rfl, h⟩ (kn_dec tJ0_coder_7d493 6 rfl)
  · have h := h.2 c1
    refine lv_aload_n hx hb (kn_dec tJ0_coder_7d493 2 rfl) rfl (lv_at hl 0 rfl) ?_
    obtain ⟨hs2, h⟩ := h
    refine vk_getf hx hb ((kn_zs hZ hs2).1 0 (by decide)).2.1 I.2.2 hown (hts _ q7_124) (fun _ h => h) (kn_dec tJ0_coder_7d493 3 rfl) ?_
    refine lv_goto (tgt := 14) hx hb (kn_dec tJ0_coder_7d493 4 rfl) (by decide) ?_
    exact kw_zret hx hb hr rfl hlocks I () rfl ⟨rfl, h⟩ (kn_dec tJ0_coder_7d493 6 rfl)

/-! J0_isLatin1_aae02 -/
abbrev rmJ0_isLatin1_aae02 : Room := { frames := 0, cells := 0, slots := 0, locals := 0 }
def PJ0_isLatin1_aae02  (s0 : Nat) (post : Int32 → Prop) : Prop := ((((1 : Int32)) = ((0 : Int32)) → post ((0 : Int32))) ∧ (¬ ((1 : Int32)) = ((0 : Int32)) → (s0 < 30 ∧ ((¬ ((0 : Int32)) = ((0 : Int32)) → post ((0 : Int32))) ∧ (((0 : Int32)) = ((0 : Int32)) → post ((1 : Int32)))))))
set_option maxRecDepth 100000 in
set_option maxHeartbeats 1000000 in
theorem ctJ0_isLatin1_aae02 {l : Launch} {D : va_G} {tc : Nat → ClassId} {Z : (Nat → Nat) × (Nat → Nat)}   {s0 : Nat}    {post : Int32 → Prop} (h : PJ0_isLatin1_aae02  s0 post) : CTi l D tc Z yJ0_isLatin1_aae02 (Cond.code yJ0_isLatin1_aae02 cJ0_isLatin1_aae02 1 (some .boolean) :: kn_all) rmJ0_isLatin1_aae02 0 0 [.ref (Z.1 s0)] [] (fun (u : Unit) => []) (fun (r : Int32) (u : Unit) => (r = 0 ∨ r = 1) ∧ post r) := by
  refine kn_ofi (cc := cJ0_isLatin1_aae02) (nL := 1) (ret := (some .boolean)) (lv := [(0, .ref (Z.1 s0))]) (by decide) (Nat.le_of_ble_eq_true rfl) rfl (fun p e s m below meth c ls X I hl _ => ?_)
  obtain ⟨S0, hr, hlocks, hK, hZ, hA⟩ := id X
  obtain ⟨hx, hb, hml, hown, hts⟩ := id S0
  unfold PJ0_isLatin1_aae02 at h
  refine va_gets hx hb hZ.2.1 I.2.2 hown (hts _ q2_190) (fun _ h => h) (kn_dec tJ0_isLatin1_aae02 0 rfl) ?_
  refine lv_if_eq (tgt := 17) hx hb (kn_dec tJ0_isLatin1_aae02 1 rfl) (by decide) (fun c1 => ?_) (fun c1 => ?_)
  · have h := h.1 c1
    refine lv_iconst (v := (0)) hx hb (kn_dec tJ0_isLatin1_aae02 7 rfl) (by decide) ?_
    exact kw_zret hx hb hr (kn_nz (Or.inl rfl)) hlocks I () rfl ⟨(Or.inl rfl), h⟩ (kn_dec tJ0_isLatin1_aae02 8 rfl)
  · have h := h.2 c1
    refine lv_aload_n hx hb (kn_dec tJ0_isLatin1_aae02 2 rfl) rfl (lv_at hl 0 rfl) ?_
    obtain ⟨hs2, h⟩ := h
    refine vk_getf hx hb ((kn_zs hZ hs2).1 0 (by decide)).2.1 I.2.2 hown (hts _ q7_124) (fun _ h => h) (kn_dec tJ0_isLatin1_aae02 3 rfl) ?_
    refine lv_if_ne (tgt := 17) hx hb (kn_dec tJ0_isLatin1_aae02 4 rfl) (by decide) (fun c3 => ?_) (fun c3 => ?_)
    · have h := h.1 c3
      refine lv_iconst (v := (0)) hx hb (kn_dec tJ0_isLatin1_aae02 7 rfl) (by decide) ?_
      exact kw_zret hx hb hr (kn_nz (Or.inl rfl)) hlocks I () rfl ⟨(Or.inl rfl), h⟩ (kn_dec tJ0_isLatin1_aae02 8 rfl)
    · have h := h.2 c3
      refine lv_iconst (v := (1)) hx hb (kn_dec tJ0_isLatin1_aae02 5 rfl) (by decide) ?_
      refine lv_goto (tgt := 18) hx hb (kn_dec tJ0_isLatin1_aae02 6 rfl) (by decide) ?_
      exact kw_zret hx hb hr (kn_nz (Or.inr rfl)) hlocks I () rfl ⟨(Or.inr rfl), h⟩ (kn_dec tJ0_isLatin1_aae02 8 rfl)

/-! J0_length_8abf5 -/
abbrev rmJ0_length_8abf5 : Room := { frames := 1, cells := 0, slots := 0, locals := 20 }
def PJ0_length_8abf5  (s0 : Nat) (post : Int32 → Prop) : Prop := (s0 < 30 ∧ (s0 < 30 ∧ (s0 < 30 ∧ (PJ0_coder_7d493 s0 (fun r3 => post ((Int32.ofNat (kn_sb s0).length) >>> (r3 &&& 31)))))))
set_option maxRecDepth 100000 in
set_option maxHeartbeats 1000000 in
theorem ctJ0_length_8abf5 {l : Launch} {D : va_G} {tc : Nat → ClassId} {Z : (Nat → Nat) × (Nat → Nat)}   {s0 : Nat}    {post : Int32 → Prop} (h : PJ0_length_8abf5  s0 post) : CTi l D tc Z yJ0_length_8abf5 (Cond.code yJ0_length_8abf5 cJ0_length_8abf5 1 (some .int) :: kn_all) rmJ0_length_8abf5 0 0 [.ref (Z.1 s0)] [] (fun (u : Unit) => []) (fun (r : Int32) (u : Unit) => post r) := by
  refine kn_ofi (cc := cJ0_length_8abf5) (nL := 1) (ret := (some .int)) (lv := [(0, .ref (Z.1 s0))]) (by decide) (Nat.le_of_ble_eq_true rfl) rfl (fun p e s m below meth c ls X I hl _ => ?_)
  obtain ⟨S0, hr, hlocks, hK, hZ, hA⟩ := id X
  obtain ⟨hx, hb, hml, hown, hts⟩ := id S0
  unfold PJ0_length_8abf5 at h
  refine lv_aload_n hx hb (kn_dec tJ0_length_8abf5 0 rfl) rfl (lv_at hl 0 rfl) ?_
  obtain ⟨hs1, h⟩ := h
  refine vk_getf hx hb ((kn_zs hZ hs1).1 0 (by decide)).2.2.1 I.2.2 hown (hts _ q7_123) (fun _ h => h) (kn_dec tJ0_length_8abf5 1 rfl) ?_
  obtain ⟨hs2, h⟩ := h
  refine va_tlen hx hb ((kn_zs hZ hs2).1 0 (by decide)).2.2.2 I.2.2 rfl (kn_dec tJ0_length_8abf5 2 rfl) ?_
  refine lv_aload_n hx hb (kn_dec tJ0_length_8abf5 3 rfl) rfl (lv_at hl 0 rfl) ?_
  obtain ⟨hs4, h⟩ := h
  refine kw_calli (wc := []) (wr := []) I hA [] [] rfl rfl (by decide) (by decide) (kn_runVR (As := []) S0 hK hZ hA I ((ctJ0_coder_7d493 h).met _) (kn_cwV 0 hts q2_186 q2_187 q2_188 q1_12 q2_189 rfl rfl (by decide +kernel) ⟨(Nat.le_of_ble_eq_true rfl), (Nat.le_of_ble_eq_true rfl)⟩) [] rfl (by decide) (vk_recv (kn_zs hZ hs4) (i := 0) (by decide) I.2.2) rfl hl.1 rfl (Nat.le_of_ble_eq_true rfl) (kn_dec tJ0_length_8abf5 4 rfl) ⟨(Nat.le_of_ble_eq_true rfl), (Nat.le_of_ble_eq_true rfl)⟩) (fun r3 u5 H locs h I => ?_)
  obtain ⟨hc_r3, h⟩ := h
  have I : kn_I D tc (kn_A _ s.heap.size) s.heap [] _ _ := I
  refine lv_ishr hx hb (kn_dec tJ0_length_8abf5 5 rfl) ?_
  exact kw_iret hx hb hr hlocks I () rfl h (kn_dec tJ0_length_8abf5 6 rfl)

/-! J3_checkIndex_8e157_N -/
abbrev rmJ3_checkIndex_8e157_N : Room := { frames := 0, cells := 0, slots := 0, locals := 0 }
def PJ3_checkIndex_8e157_N_b9   (post : Int32 → Prop)  : Prop := False
set_option maxRecDepth 100000 in
set_option maxHeartbeats 1000000 in
theorem wJ3_checkIndex_8e157_N_b9   {post : Int32 → Prop}  (X : kn_X p s m args meth c cJ3_checkIndex_8e157 3 (some .int) RJ3 kn_all D tc Z (kn_A w0 s.heap.size))    : ∀ (H : Heap) (locs : List Loc) (ls : Array Slot) , kn_I D tc (kn_A w0 s.heap.size) s.heap [] H locs → lv_has ls 3 [(2, .null)] → PJ3_checkIndex_8e157_N_b9 post → W p l e rmJ3_checkIndex_8e157_N s m args below meth c H locs 0 0 (kn_Qi D tc w0 (fun (u : Unit) => []) (fun (r : Int32) (u : Unit) => post r) below args s 0 0) (F0 m 9 ls []) := by
  obtain ⟨S0, hr, hlocks, hK, hZ, hA⟩ := id X
  obtain ⟨hx, hb, hml, hown, hts⟩ := id S0
  intro H locs ls I hl h
  unfold PJ3_checkIndex_8e157_N_b9 at h
  exact h.elim
def PJ3_checkIndex_8e157_N  (a0 : Int32) (a1 : Int32) (post : Int32 → Prop) : Prop := ((a0 < ((0 : Int32)) → PJ3_checkIndex_8e157_N_b9 post) ∧ (¬ a0 < ((0 : Int32)) → ((a0 < a1 → post a0) ∧ (¬ a0 < a1 → PJ3_checkIndex_8e157_N_b9 post))))
set_option maxRecDepth 100000 in
set_option maxHeartbeats 1000000 in
theorem ctJ3_checkIndex_8e157_N {l : Launch} {D : va_G} {tc : Nat → ClassId} {Z : (Nat → Nat) × (Nat → Nat)}   {a0 : Int32} {a1 : Int32}    {post : Int32 → Prop} (h : PJ3_checkIndex_8e157_N  a0 a1 post) : CTi l D tc Z yJ3_checkIndex_8e157 (Cond.code yJ3_checkIndex_8e157 cJ3_checkIndex_8e157 3 (some .int) :: kn_all) rmJ3_checkIndex_8e157_N 0 0 [.int a0, .int a1, .null] [] (fun (u : Unit) => []) (fun (r : Int32) (u : Unit) => post r) := by
  refine kn_ofi (cc := cJ3_checkIndex_8e157) (nL := 3) (ret := (some .int)) (lv := [(0, .int a0), (1, .int a1), (2, .null)]) (by decide) (Nat.le_of_ble_eq_true rfl) rfl (fun p e s m below meth c ls X I hl _ => ?_)
  obtain ⟨S0, hr, hlocks, hK, hZ, hA⟩ := id X
  obtain ⟨hx, hb, hml, hown, hts⟩ := id S0
  unfold PJ3_checkIndex_8e157_N at h
  refine lv_iload_n hx hb (kn_dec tJ3_checkIndex_8e157 0 rfl) rfl (lv_at hl 0 rfl) ?_
  refine lv_if_lt (tgt := 9) hx hb (kn_dec tJ3_checkIndex_8e157 1 rfl) (by decide) (fun c1 => ?_) (fun c1 => ?_)
  · have h := h.1 c1
    exact wJ3_checkIndex_8e157_N_b9 X _ _ _   I (lv_sub hl [2] rfl) h
  · have h := h.2 c1
    refine lv_iload_n hx hb (kn_dec tJ3_checkIndex_8e157 2 rfl) rfl (lv_at hl 0 rfl) ?_
    refine lv_iload_n hx hb (kn_dec tJ3_checkIndex_8e157 3 rfl) rfl (lv_at hl 1 rfl) ?_
    refine lv_icmp_lt (tgt := 16) hx hb (kn_dec tJ3_checkIndex_8e157 4 rfl) (by decide) (fun c2 => ?_) (fun c2 => ?_)
    · have h := h.1 c2
      refine lv_iload_n hx hb (kn_dec tJ3_checkIndex_8e157 10 rfl) rfl (lv_at hl 0 rfl) ?_
      exact kw_iret hx hb hr hlocks I () rfl h (kn_dec tJ3_checkIndex_8e157 11 rfl)
    · have h := h.2 c2
      exact wJ3_checkIndex_8e157_N_b9 X _ _ _   I (lv_sub hl [2] rfl) h

/-! J3_checkIndex_8e157_R -/
abbrev rmJ3_checkIndex_8e157_R : Room := { frames := 0, cells := 0, slots := 0, locals := 0 }
def PJ3_checkIndex_8e157_R_b9 (rf2 : Nat)  (post : Int32 → Prop)  : Prop := False
set_option maxRecDepth 100000 in
set_option maxHeartbeats 1000000 in
theorem wJ3_checkIndex_8e157_R_b9 {rf2 : Nat}  {post : Int32 → Prop}  (X : kn_X p s m args meth c cJ3_checkIndex_8e157 3 (some .int) RJ3 kn_all D tc Z (kn_A w0 s.heap.size))    : ∀ (H : Heap) (locs : List Loc) (ls : Array Slot) , kn_I D tc (kn_A w0 s.heap.size) s.heap [] H locs → lv_has ls 3 [(2, .ref rf2)] → PJ3_checkIndex_8e157_R_b9 rf2 post → W p l e rmJ3_checkIndex_8e157_R s m args below meth c H locs 0 0 (kn_Qi D tc w0 (fun (u : Unit) => []) (fun (r : Int32) (u : Unit) => post r) below args s 0 0) (F0 m 9 ls []) := by
  obtain ⟨S0, hr, hlocks, hK, hZ, hA⟩ := id X
  obtain ⟨hx, hb, hml, hown, hts⟩ := id S0
  intro H locs ls I hl h
  unfold PJ3_checkIndex_8e157_R_b9 at h
  exact h.elim
def PJ3_checkIndex_8e157_R  (rf2 : Nat) (a0 : Int32) (a1 : Int32) (post : Int32 → Prop) : Prop := ((a0 < ((0 : Int32)) → PJ3_checkIndex_8e157_R_b9 rf2 post) ∧ (¬ a0 < ((0 : Int32)) → ((a0 < a1 → post a0) ∧ (¬ a0 < a1 → PJ3_checkIndex_8e157_R_b9 rf2 post))))
set_option maxRecDepth 100000 in
set_option maxHeartbeats 1000000 in
theorem ctJ3_checkIndex_8e157_R {l : Launch} {D : va_G} {tc : Nat → ClassId} {Z : (Nat → Nat) × (Nat → Nat)}   {rf2 : Nat} {a0 : Int32} {a1 : Int32}    {post : Int32 → Prop} (h : PJ3_checkIndex_8e157_R  rf2 a0 a1 post) : CTi l D tc Z yJ3_checkIndex_8e157 (Cond.code yJ3_checkIndex_8e157 cJ3_checkIndex_8e157 3 (some .int) :: kn_all) rmJ3_checkIndex_8e157_R 0 0 [.int a0, .int a1, .ref rf2] [] (fun (u : Unit) => []) (fun (r : Int32) (u : Unit) => post r) := by
  refine kn_ofi (cc := cJ3_checkIndex_8e157) (nL := 3) (ret := (some .int)) (lv := [(0, .int a0), (1, .int a1), (2, .ref rf2)]) (by decide) (Nat.le_of_ble_eq_true rfl) rfl (fun p e s m below meth c ls X I hl _ => ?_)
  obtain ⟨S0, hr, hlocks, hK, hZ, hA⟩ := id X
  obtain ⟨hx, hb, hml, hown, hts⟩ := id S0
  unfold PJ3_checkIndex_8e157_R at h
  refine lv_iload_n hx hb (kn_dec tJ3_checkIndex_8e157 0 rfl) rfl (lv_at hl 0 rfl) ?_
  refine lv_if_lt (tgt := 9) hx hb (kn_dec tJ3_checkIndex_8e157 1 rfl) (by decide) (fun c1 => ?_) (fun c1 => ?_)
  · have h := h.1 c1
    exact wJ3_checkIndex_8e157_R_b9 X _ _ _   I (lv_sub hl [2] rfl) h
  · have h := h.2 c1
    refine lv_iload_n hx hb (kn_dec tJ3_checkIndex_8e157 2 rfl) rfl (lv_at hl 0 rfl) ?_
    refine lv_iload_n hx hb (kn_dec tJ3_checkIndex_8e157 3 rfl) rfl (lv_at hl 1 rfl) ?_
    refine lv_icmp_lt (tgt := 16) hx hb (kn_dec tJ3_checkIndex_8e157 4 rfl) (by decide) (fun c2 => ?_) (fun c2 => ?_)
    · have h := h.1 c2
      refine lv_iload_n hx hb (kn_dec tJ3_checkIndex_8e157 10 rfl) rfl (lv_at hl 0 rfl) ?_
      exact kw_iret hx hb hr hlocks I () rfl h (kn_dec tJ3_checkIndex_8e157 11 rfl)
    · have h := h.2 c2
      exact wJ3_checkIndex_8e157_R_b9 X _ _ _   I (lv_sub hl [2] rfl) h

/-! J0_checkIndex_df160 -/
abbrev rmJ0_checkIndex_df160 : Room := { frames := 1, cells := 0, slots := 0, locals := 22 }
def PJ0_checkIndex_df160  (a0 : Int32) (a1 : Int32) (post : Prop) : Prop := ((PJ3_checkIndex_8e157_N a0 a1 (fun r2 => post)) ∧ (∀ tq : Nat, (PJ3_checkIndex_8e157_R tq a0 a1 (fun r4 => post))))
set_option maxRecDepth 100000 in
set_option maxHeartbeats 1000000 in
theorem ctJ0_checkIndex_df160 {l : Launch} {D : va_G} {tc : Nat → ClassId} {Z : (Nat → Nat) × (Nat → Nat)}   {a0 : Int32} {a1 : Int32}    {post : Prop} (h : PJ0_checkIndex_df160  a0 a1 post) : CTv l D tc Z yJ0_checkIndex_df160 (Cond.code yJ0_checkIndex_df160 cJ0_checkIndex_df160 2 none :: kn_all) rmJ0_checkIndex_df160 0 0 [.int a0, .int a1] [] (fun (u : Unit) => []) (fun (u : Unit) => post) := by
  refine kn_ofv (cc := cJ0_checkIndex_df160) (nL := 2) (ret := none) (lv := [(0, .int a0), (1, .int a1)]) (by decide) (Nat.le_of_ble_eq_true rfl) rfl (fun p e s m below meth c ls X I hl _ => ?_)
  obtain ⟨S0, hr, hlocks, hK, hZ, hA⟩ := id X
  obtain ⟨hx, hb, hml, hown, hts⟩ := id S0
  unfold PJ0_checkIndex_df160 at h
  refine lv_iload_n hx hb (kn_dec tJ0_checkIndex_df160 0 rfl) rfl (lv_at hl 0 rfl) ?_
  refine lv_iload_n hx hb (kn_dec tJ0_checkIndex_df160 1 rfl) rfl (lv_at hl 1 rfl) ?_
  rcases hZ.2.2.1 with hq1 | ⟨tq, hq1⟩
  · have h := h.1
    refine va_gets hx hb hq1 I.2.2 hown (hts _ q2_206) (fun _ h => h) (kn_dec tJ0_checkIndex_df160 2 rfl) ?_
    refine kw_calli (wc := []) (wr := []) I hA [] [] rfl rfl (by decide) (by decide) (kn_runS (As := [.int _, .int _, .null]) S0 hK hZ hA I ((ctJ3_checkIndex_8e157_N h).met _) (kn_cwS 3 hts q2_208 q2_209 q1_14 q2_210 rfl rfl (by decide +kernel) ⟨(Nat.le_of_ble_eq_true rfl), (Nat.le_of_ble_eq_true rfl)⟩) [] rfl (by decide) rfl hl.1 rfl (Nat.le_of_ble_eq_true rfl) (kn_dec tJ0_checkIndex_df160 3 rfl) ⟨(Nat.le_of_ble_eq_true rfl), (Nat.le_of_ble_eq_true rfl)⟩) (fun r2 u3 H locs h I => ?_)
    have I : kn_I D tc (kn_A _ s.heap.size) s.heap [] _ _ := I
    refine lv_pop hx hb (kn_dec tJ0_checkIndex_df160 4 rfl) rfl ?_
    exact kw_vret hx hb hr hlocks I () rfl h (kn_dec tJ0_checkIndex_df160 5 rfl)
  · have h := h.2 tq
    refine va_gets hx hb hq1 I.2.2 hown (hts _ q2_206) (fun _ h => h) (kn_dec tJ0_checkIndex_df160 2 rfl) ?_
    refine kw_calli (wc := []) (wr := []) I hA [] [] rfl rfl (by decide) (by decide) (kn_runS (As := [.int _, .int _, .ref tq]) S0 hK hZ hA I ((ctJ3_checkIndex_8e157_R h).met _) (kn_cwS 3 hts q2_208 q2_209 q1_14 q2_210 rfl rfl (by decide +kernel) ⟨(Nat.le_of_ble_eq_true rfl), (Nat.le_of_ble_eq_true rfl)⟩) [] rfl (by decide) rfl hl.1 rfl (Nat.le_of_ble_eq_true rfl) (kn_dec tJ0_checkIndex_df160 3 rfl) ⟨(Nat.le_of_ble_eq_true rfl), (Nat.le_of_ble_eq_true rfl)⟩) (fun r4 u5 H locs h I => ?_)
    have I : kn_I D tc (kn_A _ s.heap.size) s.heap [] _ _ := I
    refine lv_pop hx hb (kn_dec tJ0_checkIndex_df160 4 rfl) rfl ?_
    exact kw_vret hx hb hr hlocks I () rfl h (kn_dec tJ0_checkIndex_df160 5 rfl)

/-! J1_charAt_3b067 -/
abbrev rmJ1_charAt_3b067 : Room := { frames := 2, cells := 0, slots := 0, locals := 43 }
def PJ1_charAt_3b067  (s0 : Nat) (a1 : Int32) (post : Int32 → Prop) : Prop := (s0 < 30 ∧ (PJ0_checkIndex_df160 a1 (Int32.ofNat (kn_sb s0).length) ((s0 < 30 ∧ (vp_in a1 (kn_sb s0).length ∧ post (((((kn_sb s0).getD a1.toNatClampNeg 0) &&& ((255 : Int32))).toUInt32 % 65536).toInt32))))))
set_option maxRecDepth 100000 in
set_option maxHeartbeats 1000000 in
theorem ctJ1_charAt_3b067 {l : Launch} {D : va_G} {tc : Nat → ClassId} {Z : (Nat → Nat) × (Nat → Nat)}   {s0 : Nat} {a1 : Int32}    {post : Int32 → Prop} (h : PJ1_charAt_3b067  s0 a1 post) : CTi l D tc Z yJ1_charAt_3b067 (Cond.code yJ1_charAt_3b067 cJ1_charAt_3b067 2 (some .char) :: kn_all) rmJ1_charAt_3b067 0 0 [.ref (Z.2 s0), .int a1] [] (fun (u : Unit) => []) (fun (r : Int32) (u : Unit) => narrow .char (.int r) = .int r ∧ post r) := by
  refine kn_ofi (cc := cJ1_charAt_3b067) (nL := 2) (ret := (some .char)) (lv := [(0, .ref (Z.2 s0)), (1, .int a1)]) (by decide) (Nat.le_of_ble_eq_true rfl) rfl (fun p e s m below meth c ls X I hl _ => ?_)
  obtain ⟨S0, hr, hlocks, hK, hZ, hA⟩ := id X
  obtain ⟨hx, hb, hml, hown, hts⟩ := id S0
  unfold PJ1_charAt_3b067 at h
  refine lv_iload_n hx hb (kn_dec tJ1_charAt_3b067 0 rfl) rfl (lv_at hl 1 rfl) ?_
  refine lv_aload_n hx hb (kn_dec tJ1_charAt_3b067 1 rfl) rfl (lv_at hl 0 rfl) ?_
  obtain ⟨hs1, h⟩ := h
  refine va_tlen hx hb ((kn_zs hZ hs1).1 0 (by decide)).2.2.2 I.2.2 rfl (kn_dec tJ1_charAt_3b067 2 rfl) ?_
  refine kw_callv (wc := []) (wr := []) I hA [] [] rfl rfl (by decide) (by decide) (kn_runS (As := [.int _, .int _]) S0 hK hZ hA I ((ctJ0_checkIndex_df160 h).met _) (kn_cwS 2 hts q2_203 q2_204 q1_12 q2_205 rfl rfl (by decide +kernel) ⟨(Nat.le_of_ble_eq_true rfl), (Nat.le_of_ble_eq_true rfl)⟩) [] rfl (by decide) rfl hl.1 rfl (Nat.le_of_ble_eq_true rfl) (kn_dec tJ1_charAt_3b067 3 rfl) ⟨(Nat.le_of_ble_eq_true rfl), (Nat.le_of_ble_eq_true rfl)⟩) (fun u2 H locs h I => ?_)
  have I : kn_I D tc (kn_A _ s.heap.size) s.heap [] _ _ := I
  refine lv_aload_n hx hb (kn_dec tJ1_charAt_3b067 4 rfl) rfl (lv_at hl 0 rfl) ?_
  refine lv_iload_n hx hb (kn_dec tJ1_charAt_3b067 5 rfl) rfl (lv_at hl 1 rfl) ?_
  obtain ⟨hs3, h⟩ := h
  obtain ⟨hs4, h⟩ := h
  refine va_tb hx hb ((kn_zs hZ hs3).1 0 (by decide)).2.2.2 I.2.2 hs4 rfl (kn_dec tJ1_charAt_3b067 6 rfl) ?_
  refine lv_sipush (v := (255)) hx hb (kn_dec tJ1_charAt_3b067 7 rfl) (by decide) ?_
  refine lv_iand hx hb (kn_dec tJ1_charAt_3b067 8 rfl) ?_
  refine lv_i2c hx hb (kn_dec tJ1_charAt_3b067 9 rfl) rfl ?_
  exact kw_zret hx hb hr (pk_nc _) hlocks I () rfl ⟨(pk_nc _), h⟩ (kn_dec tJ1_charAt_3b067 10 rfl)

/-! J0_charAt_5068e -/
abbrev rmJ0_charAt_5068e : Room := { frames := 3, cells := 0, slots := 0, locals := 64 }
def PJ0_charAt_5068e  (s0 : Nat) (a1 : Int32) (post : Int32 → Prop) : Prop := (s0 < 30 ∧ (PJ0_isLatin1_aae02 s0 (fun r1 => ((r1 = ((0 : Int32)) → False) ∧ (¬ r1 = ((0 : Int32)) → (s0 < 30 ∧ (PJ1_charAt_3b067 s0 a1 (fun r6 => post r6))))))))
set_option maxRecDepth 100000 in
set_option maxHeartbeats 1000000 in
theorem ctJ0_charAt_5068e {l : Launch} {D : va_G} {tc : Nat → ClassId} {Z : (Nat → Nat) × (Nat → Nat)}   {s0 : Nat} {a1 : Int32}    {post : Int32 → Prop} (h : PJ0_charAt_5068e  s0 a1 post) : CTi l D tc Z yJ0_charAt_5068e (Cond.code yJ0_charAt_5068e cJ0_charAt_5068e 2 (some .char) :: kn_all) rmJ0_charAt_5068e 0 0 [.ref (Z.1 s0), .int a1] [] (fun (u : Unit) => []) (fun (r : Int32) (u : Unit) => narrow .char (.int r) = .int r ∧ post r) := by
  refine kn_ofi (cc := cJ0_charAt_5068e) (nL := 2) (ret := (some .char)) (lv := [(0, .ref (Z.1 s0)), (1, .int a1)]) (by decide) (Nat.le_of_ble_eq_true rfl) rfl (fun p e s m below meth c ls X I hl _ => ?_)
  obtain ⟨S0, hr, hlocks, hK, hZ, hA⟩ := id X
  obtain ⟨hx, hb, hml, hown, hts⟩ := id S0
  unfold PJ0_charAt_5068e at h
  refine lv_aload_n hx hb (kn_dec tJ0_charAt_5068e 0 rfl) rfl (lv_at hl 0 rfl) ?_
  obtain ⟨hs2, h⟩ := h
  refine kw_calli (wc := []) (wr := []) I hA [] [] rfl rfl (by decide) (by decide) (kn_runVR (As := []) S0 hK hZ hA I ((ctJ0_isLatin1_aae02 h).met _) (kn_cwV 0 hts q2_196 q2_197 q2_198 q1_12 q2_199 rfl rfl (by decide +kernel) ⟨(Nat.le_of_ble_eq_true rfl), (Nat.le_of_ble_eq_true rfl)⟩) [] rfl (by decide) (vk_recv (kn_zs hZ hs2) (i := 0) (by decide) I.2.2) rfl hl.1 rfl (Nat.le_of_ble_eq_true rfl) (kn_dec tJ0_charAt_5068e 1 rfl) ⟨(Nat.le_of_ble_eq_true rfl), (Nat.le_of_ble_eq_true rfl)⟩) (fun r1 u3 H locs h I => ?_)
  obtain ⟨hz_r1, h⟩ := h
  have I : kn_I D tc (kn_A _ s.heap.size) s.heap [] _ _ := I
  refine lv_if_eq (tgt := 16) hx hb (kn_dec tJ0_charAt_5068e 2 rfl) (by decide) (fun c4 => ?_) (fun c4 => ?_)
  · have h := h.1 c4
    exact h.elim
  · have h := h.2 c4
    refine lv_aload_n hx hb (kn_dec tJ0_charAt_5068e 3 rfl) rfl (lv_at hl 0 rfl) ?_
    obtain ⟨hs5, h⟩ := h
    refine vk_getf hx hb ((kn_zs hZ hs5).1 0 (by decide)).2.2.1 I.2.2 hown (hts _ q7_123) (fun _ h => h) (kn_dec tJ0_charAt_5068e 4 rfl) ?_
    refine lv_iload_n hx hb (kn_dec tJ0_charAt_5068e 5 rfl) rfl (lv_at hl 1 rfl) ?_
    refine kw_calli (wc := []) (wr := []) I hA [] [] rfl rfl (by decide) (by decide) (kn_runS (As := [.ref (Z.2 s0), .int _]) S0 hK hZ hA I ((ctJ1_charAt_3b067 h).met _) (kn_cwS 2 hts q2_200 q2_201 q1_13 q2_202 rfl rfl (by decide +kernel) ⟨(Nat.le_of_ble_eq_true rfl), (Nat.le_of_ble_eq_true rfl)⟩) [] rfl (by decide) rfl hl.1 rfl (Nat.le_of_ble_eq_true rfl) (kn_dec tJ0_charAt_5068e 6 rfl) ⟨(Nat.le_of_ble_eq_true rfl), (Nat.le_of_ble_eq_true rfl)⟩) (fun r6 u7 H locs h I => ?_)
    obtain ⟨hc_r6, h⟩ := h
    have I : kn_I D tc (kn_A _ s.heap.size) s.heap [] _ _ := I
    exact kw_zret hx hb hr hc_r6 hlocks I () rfl ⟨hc_r6, h⟩ (kn_dec tJ0_charAt_5068e 7 rfl)

/-! X0_minutes -/
abbrev rmX0_minutes : Room := { frames := 1, cells := 0, slots := 0, locals := 64 }
def PX0_minutes  (v_h : OV) (v_s : OV) (a2 : Int32) (a3 : Int32) (post : Int32 → Prop) : Prop := (vp_in a3 10 ∧ (vp_in a2 4 ∧ (vp_in a3 10 ∧ post (if ((1 : Int32)) < (((v_h.2.1 6 a3.toNatClampNeg) - (v_h.2.1 12 a2.toNatClampNeg)) - ((v_s.2.1 3 a3.toNatClampNeg) / ((4 : Int32)))) then (((v_h.2.1 6 a3.toNatClampNeg) - (v_h.2.1 12 a2.toNatClampNeg)) - ((v_s.2.1 3 a3.toNatClampNeg) / ((4 : Int32)))) else ((1 : Int32))))))
set_option maxRecDepth 100000 in
set_option maxHeartbeats 1000000 in
theorem ctX0_minutes {l : Launch} {D : va_G} {tc : Nat → ClassId} {Z : (Nat → Nat) × (Nat → Nat)}  {ad_h : Nat → Nat} {ad_s : Nat → Nat} {v_h : OV} {v_s : OV} {a2 : Int32} {a3 : Int32}    {post : Int32 → Prop} (h : PX0_minutes  v_h v_s a2 a3 post) : CTi l D tc Z yX0_minutes (Cond.code yX0_minutes cX0_minutes 4 (some .int) :: kn_all) rmX0_minutes 0 0 [.ref (ad_h 0), .ref (ad_s 0), .int a2, .int a3] [(kHill, ad_h, v_h), (kState, ad_s, v_s)] (fun (u : Unit) => [(kHill, ad_h, v_h), (kState, ad_s, v_s)]) (fun (r : Int32) (u : Unit) => post r) := by
  refine kn_ofi (cc := cX0_minutes) (nL := 4) (ret := (some .int)) (lv := [(0, .ref (ad_h 0)), (1, .ref (ad_s 0)), (2, .int a2), (3, .int a3)]) (by decide) (Nat.le_of_ble_eq_true rfl) rfl (fun p e s m below meth c ls X I hl _ => ?_)
  obtain ⟨S0, hr, hlocks, hK, hZ, hA⟩ := id X
  obtain ⟨hx, hb, hml, hown, hts⟩ := id S0
  unfold PX0_minutes at h
  refine lv_iconst (v := (1)) hx hb (kn_dec tX0_minutes 0 rfl) (by decide) ?_
  refine lv_aload_n hx hb (kn_dec tX0_minutes 1 rfl) rfl (lv_at hl 0 rfl) ?_
  refine kw_getl hx hb hts inX0 hown hK I 0 rfl rfl 6 (by decide) rfl (hts _ q1_137) (kn_dec tX0_minutes 2 rfl) rfl ?_
  refine lv_iload_n hx hb (kn_dec tX0_minutes 3 rfl) rfl (lv_at hl 3 rfl) ?_
  obtain ⟨hs1, h⟩ := h
  refine kw_iald hx hb hK I 0 rfl 6 10 (List.mem_of_getElem? (i := 1) rfl) hs1 (kn_dec tX0_minutes 4 rfl) ?_
  refine lv_aload_n hx hb (kn_dec tX0_minutes 5 rfl) rfl (lv_at hl 0 rfl) ?_
  refine kw_getl hx hb hts inX0 hown hK I 0 rfl rfl 12 (by decide) rfl (hts _ q1_157) (kn_dec tX0_minutes 6 rfl) rfl ?_
  refine lv_iload_n hx hb (kn_dec tX0_minutes 7 rfl) rfl (lv_at hl 2 rfl) ?_
  obtain ⟨hs2, h⟩ := h
  refine kw_iald hx hb hK I 0 rfl 12 4 (List.mem_of_getElem? (i := 4) rfl) hs2 (kn_dec tX0_minutes 8 rfl) ?_
  refine lv_isub hx hb (kn_dec tX0_minutes 9 rfl) ?_
  refine lv_aload_n hx hb (kn_dec tX0_minutes 10 rfl) rfl (lv_at hl 1 rfl) ?_
  refine kw_getl hx hb hts inX6 hown hK I 1 rfl rfl 3 (by decide) rfl (hts _ q1_229) (kn_dec tX0_minutes 11 rfl) rfl ?_
  refine lv_iload_n hx hb (kn_dec tX0_minutes 12 rfl) rfl (lv_at hl 3 rfl) ?_
  obtain ⟨hs3, h⟩ := h
  refine kw_iald hx hb hK I 1 rfl 3 10 (List.mem_of_getElem? (i := 0) rfl) hs3 (kn_dec tX0_minutes 13 rfl) ?_
  refine lv_iconst (v := (4)) hx hb (kn_dec tX0_minutes 14 rfl) (by decide) ?_
  refine lv_idiv hx hb (kn_dec tX0_minutes 15 rfl) (by decide) ?_
  refine lv_isub hx hb (kn_dec tX0_minutes 16 rfl) ?_
  refine va_mmax hx hb (hml.trans hl.1.symm) hown (hts _ q3_220) (hts _ q3_221) (hts _ q1_11) (hts _ q3_222) (Nat.le_of_ble_eq_true rfl) (Nat.le_of_ble_eq_true rfl) (Nat.le_of_ble_eq_true rfl) (Nat.le_of_ble_eq_true rfl) (kn_dec tX0_minutes 17 rfl) ?_
  exact kw_iret hx hb hr hlocks I () rfl h (kn_dec tX0_minutes 18 rfl)

/-! X0_walkersCome -/
abbrev rmX0_walkersCome : Room := { frames := 0, cells := 0, slots := 0, locals := 0 }
def PX0_walkersCome_L2 (v_h : OV)  (post : Int32 → Prop) : Nat → Int32 → Int32 → Prop
  | 0, _, _ => False
  | n + 1, y1, y2 => (((v_h.1 16) ≤ y2 → post ((0 : Int32))) ∧ (¬ (v_h.1 16) ≤ y2 → (vp_in y2 8 ∧ ((¬ (v_h.2.1 17 y2.toNatClampNeg) = y1 → (∀ x4 : Int32, x4 = y2 + (1 : Int32) → PX0_walkersCome_L2 v_h post n y1 x4)) ∧ ((v_h.2.1 17 y2.toNatClampNeg) = y1 → post ((1 : Int32)))))))
set_option maxRecDepth 100000 in
set_option maxHeartbeats 1000000 in
theorem wX0_walkersCome_L2 {v_h : OV}  {post : Int32 → Prop} {ad_h : Nat → Nat} (X : kn_X p s m args meth c cX0_walkersCome 3 (some .boolean) RX0 kn_all D tc Z (kn_A w0 s.heap.size))    : ∀ n : Nat, ∀ (H : Heap) (locs : List Loc) (ls : Array Slot) (y1 : Int32) (y2 : Int32), kn_I D tc (kn_A w0 s.heap.size) s.heap [(kHill, ad_h, v_h)] H locs → lv_has ls 3 [(0, .ref (ad_h 0)), (1, .int y1), (2, .int y2)] → PX0_walkersCome_L2 v_h post n y1 y2 → W p l e rmX0_walkersCome s m args below meth c H locs 0 0 (kn_Qi D tc w0 (fun (u : Unit) => [(kHill, ad_h, v_h)]) (fun (r : Int32) (u : Unit) => (r = 0 ∨ r = 1) ∧ post r) below args s 0 0) (F0 m 2 ls []) := by
  obtain ⟨S0, hr, hlocks, hK, hZ, hA⟩ := id X
  obtain ⟨hx, hb, hml, hown, hts⟩ := id S0
  intro n
  induction n with
  | zero =>
    intro H locs ls y1 y2 I hl h
    unfold PX0_walkersCome_L2 at h
    exact h.elim
  | succ n ih =>
    intro H locs ls y1 y2 I hl h
    unfold PX0_walkersCome_L2 at h
    refine lv_iload_n hx hb (kn_dec tX0_walkersCome 2 rfl) rfl (lv_at hl 2 rfl) ?_
    refine lv_aload_n hx hb (kn_dec tX0_walkersCome 3 rfl) rfl (lv_at hl 0 rfl) ?_
    refine kw_geti hx hb hts inX0 hown hK I 0 rfl rfl 16 (by decide) rfl (hts _ q1_172) (kn_dec tX0_walkersCome 4 rfl) ?_
    refine lv_icmp_ge (tgt := 28) hx hb (kn_dec tX0_walkersCome 5 rfl) (by decide) (fun c1 => ?_) (fun c1 => ?_)
    · have h := h.1 c1
      refine lv_iconst (v := (0)) hx hb (kn_dec tX0_walkersCome 16 rfl) (by decide) ?_
      exact kw_zret hx hb hr (kn_nz (Or.inl rfl)) hlocks I () rfl ⟨(Or.inl rfl), h⟩ (kn_dec tX0_walkersCome 17 rfl)
    · have h := h.2 c1
      refine lv_aload_n hx hb (kn_dec tX0_walkersCome 6 rfl) rfl (lv_at hl 0 rfl) ?_
      refine kw_getl hx hb hts inX0 hown hK I 0 rfl rfl 17 (by decide) rfl (hts _ q1_174) (kn_dec tX0_walkersCome 7 rfl) rfl ?_
      refine lv_iload_n hx hb (kn_dec tX0_walkersCome 8 rfl) rfl (lv_at hl 2 rfl) ?_
      obtain ⟨hs2, h⟩ := h
      refine kw_iald hx hb hK I 0 rfl 17 8 (List.mem_of_getElem? (i := 8) rfl) hs2 (kn_dec tX0_walkersCome 9 rfl) ?_
      refine lv_iload_n hx hb (kn_dec tX0_walkersCome 10 rfl) rfl (lv_at hl 1 rfl) ?_
      refine lv_icmp_ne (tgt := 22) hx hb (kn_dec tX0_walkersCome 11 rfl) (by decide) (fun c3 => ?_) (fun c3 => ?_)
      · have h := h.1 c3
        refine kw_iinc (lvf := fun y => [(2, .int y), (0, .ref (ad_h 0)), (1, .int _)]) (nv := (1)) hx hb (kn_dec tX0_walkersCome 14 rfl) hl (k := 2) rfl (by decide) (by decide) (fun _ => rfl) (fun x4 ex4 ls hl => ?_)
        have h := h x4 ex4
        refine lv_goto (tgt := 2) hx hb (kn_dec tX0_walkersCome 15 rfl) (by decide) ?_
        exact ih _ _ _ _ _  I (lv_sub hl [1, 2, 0] rfl) h
      · have h := h.2 c3
        refine lv_iconst (v := (1)) hx hb (kn_dec tX0_walkersCome 12 rfl) (by decide) ?_
        exact kw_zret hx hb hr (kn_nz (Or.inr rfl)) hlocks I () rfl ⟨(Or.inr rfl), h⟩ (kn_dec tX0_walkersCome 13 rfl)
def PX0_walkersCome  (v_h : OV) (a1 : Int32) (post : Int32 → Prop) : Prop := (∃ n1 : Nat, PX0_walkersCome_L2 v_h post n1 a1 ((0 : Int32)))
set_option maxRecDepth 100000 in
set_option maxHeartbeats 1000000 in
theorem ctX0_walkersCome {l : Launch} {D : va_G} {tc : Nat → ClassId} {Z : (Nat → Nat) × (Nat → Nat)}  {ad_h : Nat → Nat} {v_h : OV} {a1 : Int32}    {post : Int32 → Prop} (h : PX0_walkersCome  v_h a1 post) : CTi l D tc Z yX0_walkersCome (Cond.code yX0_walkersCome cX0_walkersCome 3 (some .boolean) :: kn_all) rmX0_walkersCome 0 0 [.ref (ad_h 0), .int a1] [(kHill, ad_h, v_h)] (fun (u : Unit) => [(kHill, ad_h, v_h)]) (fun (r : Int32) (u : Unit) => (r = 0 ∨ r = 1) ∧ post r) := by
  refine kn_ofi (cc := cX0_walkersCome) (nL := 3) (ret := (some .boolean)) (lv := [(0, .ref (ad_h 0)), (1, .int a1)]) (by decide) (Nat.le_of_ble_eq_true rfl) rfl (fun p e s m below meth c ls X I hl _ => ?_)
  obtain ⟨S0, hr, hlocks, hK, hZ, hA⟩ := id X
  obtain ⟨hx, hb, hml, hown, hts⟩ := id S0
  unfold PX0_walkersCome at h
  refine lv_iconst (v := (0)) hx hb (kn_dec tX0_walkersCome 0 rfl) (by decide) ?_
  refine lv_istore_n (lv' := [(2, .int _), (0, .ref (ad_h 0)), (1, .int _)]) hx hb (kn_dec tX0_walkersCome 1 rfl) rfl hl (by decide) rfl (fun ls hl => ?_)
  obtain ⟨n1, h⟩ := h
  exact wX0_walkersCome_L2 X n1 _ _ _ _ _  I (lv_sub hl [1, 2, 0] rfl) h

/-! X0_greaterPart -/
abbrev rmX0_greaterPart : Room := { frames := 1, cells := 0, slots := 0, locals := 64 }
def PX0_greaterPart_L7 (v_h : OV)  (post : Int32 → Prop) : Nat → Int32 → Int32 → Int32 → Int32 → Prop
  | 0, _, _, _, _ => False
  | n + 1, y1, y2, y3, y4 => (((v_h.1 4) ≤ y4 → post (if y2 < y3 then y3 else y2)) ∧ (¬ (v_h.1 4) ≤ y4 → (vp_in y4 10 ∧ ((y1 ≤ (v_h.2.1 5 y4.toNatClampNeg) → (vp_in y4 10 ∧ (∀ x5 : Int32, x5 = (y3 + (v_h.2.1 7 y4.toNatClampNeg)) → (∀ x6 : Int32, x6 = y4 + (1 : Int32) → PX0_greaterPart_L7 v_h post n y1 y2 x5 x6)))) ∧ (¬ y1 ≤ (v_h.2.1 5 y4.toNatClampNeg) → (vp_in y4 10 ∧ (∀ x8 : Int32, x8 = (y2 + (v_h.2.1 7 y4.toNatClampNeg)) → (∀ x9 : Int32, x9 = y4 + (1 : Int32) → PX0_greaterPart_L7 v_h post n y1 x8 y3 x9))))))))
set_option maxRecDepth 100000 in
set_option maxHeartbeats 1000000 in
theorem wX0_greaterPart_L7 {v_h : OV}  {post : Int32 → Prop} {ad_h : Nat → Nat} (X : kn_X p s m args meth c cX0_greaterPart 5 (some .int) RX0 kn_all D tc Z (kn_A w0 s.heap.size))    : ∀ n : Nat, ∀ (H : Heap) (locs : List Loc) (ls : Array Slot) (y1 : Int32) (y2 : Int32) (y3 : Int32) (y4 : Int32), kn_I D tc (kn_A w0 s.heap.size) s.heap [(kHill, ad_h, v_h)] H locs → lv_has ls 5 [(0, .ref (ad_h 0)), (1, .int y1), (2, .int y2), (3, .int y3), (4, .int y4)] → PX0_greaterPart_L7 v_h post n y1 y2 y3 y4 → W p l e rmX0_greaterPart s m args below meth c H locs 0 0 (kn_Qi D tc w0 (fun (u : Unit) => [(kHill, ad_h, v_h)]) (fun (r : Int32) (u : Unit) => post r) below args s 0 0) (F0 m 7 ls []) := by
  obtain ⟨S0, hr, hlocks, hK, hZ, hA⟩ := id X
  obtain ⟨hx, hb, hml, hown, hts⟩ := id S0
  intro n
  induction n with
  | zero =>
    intro H locs ls y1 y2 y3 y4 I hl h
    unfold PX0_greaterPart_L7 at h
    exact h.elim
  | succ n ih =>
    intro H locs ls y1 y2 y3 y4 I hl h
    unfold PX0_greaterPart_L7 at h
    refine lv_iload hx hb (kn_dec tX0_greaterPart 6 rfl) (lv_at hl 4 rfl) ?_
    refine lv_aload_n hx hb (kn_dec tX0_greaterPart 7 rfl) rfl (lv_at hl 0 rfl) ?_
    refine kw_geti hx hb hts inX0 hown hK I 0 rfl rfl 4 (by decide) rfl (hts _ q1_129) (kn_dec tX0_greaterPart 8 rfl) ?_
    refine lv_icmp_ge (tgt := 56) hx hb (kn_dec tX0_greaterPart 9 rfl) (by decide) (fun c1 => ?_) (fun c1 => ?_)
    · have h := h.1 c1
      refine lv_iload_n hx hb (kn_dec tX0_greaterPart 33 rfl) rfl (lv_at hl 2 rfl) ?_
      refine lv_iload_n hx hb (kn_dec tX0_greaterPart 34 rfl) rfl (lv_at hl 3 rfl) ?_
      refine va_mmax hx hb (hml.trans hl.1.symm) hown (hts _ q3_220) (hts _ q3_221) (hts _ q1_11) (hts _ q3_222) (Nat.le_of_ble_eq_true rfl) (Nat.le_of_ble_eq_true rfl) (Nat.le_of_ble_eq_true rfl) (Nat.le_of_ble_eq_true rfl) (kn_dec tX0_greaterPart 35 rfl) ?_
      exact kw_iret hx hb hr hlocks I () rfl h (kn_dec tX0_greaterPart 36 rfl)
    · have h := h.2 c1
      refine lv_aload_n hx hb (kn_dec tX0_greaterPart 10 rfl) rfl (lv_at hl 0 rfl) ?_
      refine kw_getl hx hb hts inX0 hown hK I 0 rfl rfl 5 (by decide) rfl (hts _ q1_133) (kn_dec tX0_greaterPart 11 rfl) rfl ?_
      refine lv_iload hx hb (kn_dec tX0_greaterPart 12 rfl) (lv_at hl 4 rfl) ?_
      obtain ⟨hs2, h⟩ := h
      refine kw_iald hx hb hK I 0 rfl 5 10 (List.mem_of_getElem? (i := 0) rfl) hs2 (kn_dec tX0_greaterPart 13 rfl) ?_
      refine lv_iload_n hx hb (kn_dec tX0_greaterPart 14 rfl) rfl (lv_at hl 1 rfl) ?_
      refine lv_icmp_ge (tgt := 40) hx hb (kn_dec tX0_greaterPart 15 rfl) (by decide) (fun c3 => ?_) (fun c3 => ?_)
      · have h := h.1 c3
        refine lv_iload_n hx hb (kn_dec tX0_greaterPart 24 rfl) rfl (lv_at hl 3 rfl) ?_
        refine lv_aload_n hx hb (kn_dec tX0_greaterPart 25 rfl) rfl (lv_at hl 0 rfl) ?_
        refine kw_getl hx hb hts inX0 hown hK I 0 rfl rfl 7 (by decide) rfl (hts _ q1_141) (kn_dec tX0_greaterPart 26 rfl) rfl ?_
        refine lv_iload hx hb (kn_dec tX0_greaterPart 27 rfl) (lv_at hl 4 rfl) ?_
        obtain ⟨hs4, h⟩ := h
        refine kw_iald hx hb hK I 0 rfl 7 10 (List.mem_of_getElem? (i := 2) rfl) hs4 (kn_dec tX0_greaterPart 28 rfl) ?_
        refine lv_iadd hx hb (kn_dec tX0_greaterPart 29 rfl) ?_
        refine lv_topi (fun x5 ex5 => ?_)
        have h := h x5 ex5
        refine lv_istore_n (lv' := [(3, .int _), (0, .ref (ad_h 0)), (1, .int _), (2, .int _), (4, .int _)]) hx hb (kn_dec tX0_greaterPart 30 rfl) rfl hl (by decide) rfl (fun ls hl => ?_)
        refine kw_iinc (lvf := fun y => [(4, .int y), (3, .int _), (0, .ref (ad_h 0)), (1, .int _), (2, .int _)]) (nv := (1)) hx hb (kn_dec tX0_greaterPart 31 rfl) hl (k := 4) rfl (by decide) (by decide) (fun _ => rfl) (fun x6 ex6 ls hl => ?_)
        have h := h x6 ex6
        refine lv_goto (tgt := 7) hx hb (kn_dec tX0_greaterPart 32 rfl) (by decide) ?_
        exact ih _ _ _ _ _ _ _  I (lv_sub hl [2, 3, 4, 1, 0] rfl) h
      · have h := h.2 c3
        refine lv_iload_n hx hb (kn_dec tX0_greaterPart 16 rfl) rfl (lv_at hl 2 rfl) ?_
        refine lv_aload_n hx hb (kn_dec tX0_greaterPart 17 rfl) rfl (lv_at hl 0 rfl) ?_
        refine kw_getl hx hb hts inX0 hown hK I 0 rfl rfl 7 (by decide) rfl (hts _ q1_141) (kn_dec tX0_greaterPart 18 rfl) rfl ?_
        refine lv_iload hx hb (kn_dec tX0_greaterPart 19 rfl) (lv_at hl 4 rfl) ?_
        obtain ⟨hs7, h⟩ := h
        refine kw_iald hx hb hK I 0 rfl 7 10 (List.mem_of_getElem? (i := 2) rfl) hs7 (kn_dec tX0_greaterPart 20 rfl) ?_
        refine lv_iadd hx hb (kn_dec tX0_greaterPart 21 rfl) ?_
        refine lv_topi (fun x8 ex8 => ?_)
        have h := h x8 ex8
        refine lv_istore_n (lv' := [(2, .int _), (0, .ref (ad_h 0)), (1, .int _), (3, .int _), (4, .int _)]) hx hb (kn_dec tX0_greaterPart 22 rfl) rfl hl (by decide) rfl (fun ls hl => ?_)
        refine lv_goto (tgt := 50) hx hb (kn_dec tX0_greaterPart 23 rfl) (by decide) ?_
        refine kw_iinc (lvf := fun y => [(4, .int y), (2, .int _), (0, .ref (ad_h 0)), (1, .int _), (3, .int _)]) (nv := (1)) hx hb (kn_dec tX0_greaterPart 31 rfl) hl (k := 4) rfl (by decide) (by decide) (fun _ => rfl) (fun x9 ex9 ls hl => ?_)
        have h := h x9 ex9
        refine lv_goto (tgt := 7) hx hb (kn_dec tX0_greaterPart 32 rfl) (by decide) ?_
        exact ih _ _ _ _ _ _ _  I (lv_sub hl [2, 3, 1, 4, 0] rfl) h
def PX0_greaterPart  (v_h : OV) (a1 : Int32) (post : Int32 → Prop) : Prop := (∃ n1 : Nat, PX0_greaterPart_L7 v_h post n1 a1 ((0 : Int32)) ((0 : Int32)) ((0 : Int32)))
set_option maxRecDepth 100000 in
set_option maxHeartbeats 1000000 in
theorem ctX0_greaterPart {l : Launch} {D : va_G} {tc : Nat → ClassId} {Z : (Nat → Nat) × (Nat → Nat)}  {ad_h : Nat → Nat} {v_h : OV} {a1 : Int32}    {post : Int32 → Prop} (h : PX0_greaterPart  v_h a1 post) : CTi l D tc Z yX0_greaterPart (Cond.code yX0_greaterPart cX0_greaterPart 5 (some .int) :: kn_all) rmX0_greaterPart 0 0 [.ref (ad_h 0), .int a1] [(kHill, ad_h, v_h)] (fun (u : Unit) => [(kHill, ad_h, v_h)]) (fun (r : Int32) (u : Unit) => post r) := by
  refine kn_ofi (cc := cX0_greaterPart) (nL := 5) (ret := (some .int)) (lv := [(0, .ref (ad_h 0)), (1, .int a1)]) (by decide) (Nat.le_of_ble_eq_true rfl) rfl (fun p e s m below meth c ls X I hl _ => ?_)
  obtain ⟨S0, hr, hlocks, hK, hZ, hA⟩ := id X
  obtain ⟨hx, hb, hml, hown, hts⟩ := id S0
  unfold PX0_greaterPart at h
  refine lv_iconst (v := (0)) hx hb (kn_dec tX0_greaterPart 0 rfl) (by decide) ?_
  refine lv_istore_n (lv' := [(2, .int _), (0, .ref (ad_h 0)), (1, .int _)]) hx hb (kn_dec tX0_greaterPart 1 rfl) rfl hl (by decide) rfl (fun ls hl => ?_)
  refine lv_iconst (v := (0)) hx hb (kn_dec tX0_greaterPart 2 rfl) (by decide) ?_
  refine lv_istore_n (lv' := [(3, .int _), (2, .int _), (0, .ref (ad_h 0)), (1, .int _)]) hx hb (kn_dec tX0_greaterPart 3 rfl) rfl hl (by decide) rfl (fun ls hl => ?_)
  refine lv_iconst (v := (0)) hx hb (kn_dec tX0_greaterPart 4 rfl) (by decide) ?_
  refine lv_istore (lv' := [(4, .int _), (3, .int _), (2, .int _), (0, .ref (ad_h 0)), (1, .int _)]) hx hb (kn_dec tX0_greaterPart 5 rfl) hl (by decide) rfl (fun ls hl => ?_)
  obtain ⟨n1, h⟩ := h
  exact wX0_greaterPart_L7 X n1 _ _ _ _ _ _ _  I (lv_sub hl [3, 4, 2, 1, 0] rfl) h

/-! X6_finderBits -/
abbrev rmX6_finderBits : Room := { frames := 0, cells := 0, slots := 0, locals := 0 }
def PX6_finderBits_b27 (v_s : OV) (K4 : Int32 → Int32 → Prop) (post : Int32 → Prop) (t0 : Int32) (t1 : Int32) (y2 : Int32) : Prop := (∀ x1 : Int32, x1 = (t0 ||| t1) → (∀ x2 : Int32, x2 = y2 + (1 : Int32) → K4 x1 x2))
set_option maxRecDepth 100000 in
set_option maxHeartbeats 1000000 in
theorem wX6_finderBits_b27 {v_s : OV} {K4 : Int32 → Int32 → Prop} {post : Int32 → Prop} {ad_s : Nat → Nat} (X : kn_X p s m args meth c cX6_finderBits 3 (some .int) RX6 kn_all D tc Z (kn_A w0 s.heap.size))   (hK4 : ∀ (H : Heap) (locs : List Loc) (ls : Array Slot) (y1 : Int32) (y2 : Int32), kn_I D tc (kn_A w0 s.heap.size) s.heap [(kState, ad_s, v_s)] H locs → lv_has ls 3 [(0, .ref (ad_s 0)), (1, .int y1), (2, .int y2)] → K4 y1 y2 → W p l e rmX6_finderBits s m args below meth c H locs 0 0 (kn_Qi D tc w0 (fun (u : Unit) => [(kState, ad_s, v_s)]) (fun (r : Int32) (u : Unit) => post r) below args s 0 0) (F0 m 4 ls [])) : ∀ (H : Heap) (locs : List Loc) (ls : Array Slot) (t0 : Int32) (t1 : Int32) (y2 : Int32), kn_I D tc (kn_A w0 s.heap.size) s.heap [(kState, ad_s, v_s)] H locs → lv_has ls 3 [(0, .ref (ad_s 0)), (2, .int y2)] → PX6_finderBits_b27 v_s K4 post t0 t1 y2 → W p l e rmX6_finderBits s m args below meth c H locs 0 0 (kn_Qi D tc w0 (fun (u : Unit) => [(kState, ad_s, v_s)]) (fun (r : Int32) (u : Unit) => post r) below args s 0 0) (F0 m 27 ls [.int t1, .int t0]) := by
  obtain ⟨S0, hr, hlocks, hK, hZ, hA⟩ := id X
  obtain ⟨hx, hb, hml, hown, hts⟩ := id S0
  intro H locs ls t0 t1 y2 I hl h
  unfold PX6_finderBits_b27 at h
  refine lv_ior hx hb (kn_dec tX6_finderBits 19 rfl) ?_
  refine lv_topi (fun x1 ex1 => ?_)
  have h := h x1 ex1
  refine lv_istore_n (lv' := [(1, .int _), (0, .ref (ad_s 0)), (2, .int _)]) hx hb (kn_dec tX6_finderBits 20 rfl) rfl hl (by decide) rfl (fun ls hl => ?_)
  refine kw_iinc (lvf := fun y => [(2, .int y), (1, .int _), (0, .ref (ad_s 0))]) (nv := (1)) hx hb (kn_dec tX6_finderBits 21 rfl) hl (k := 2) rfl (by decide) (by decide) (fun _ => rfl) (fun x2 ex2 ls hl => ?_)
  have h := h x2 ex2
  refine lv_goto (tgt := 4) hx hb (kn_dec tX6_finderBits 22 rfl) (by decide) ?_
  exact hK4 _ _ _ _ _  I (lv_sub hl [2, 1, 0] rfl) h
def PX6_finderBits_L4 (v_s : OV)  (post : Int32 → Prop) : Nat → Int32 → Int32 → Prop
  | 0, _, _ => False
  | n + 1, y1, y2 => ((((4 : Int32)) ≤ y2 → post y1) ∧ (¬ ((4 : Int32)) ≤ y2 → (vp_in y2 4 ∧ ((¬ (v_s.2.1 6 y2.toNatClampNeg) = ((-1 : Int32)) → PX6_finderBits_b27 v_s (PX6_finderBits_L4 v_s post n) post y1 (((1 : Int32)) <<< (y2 &&& 31)) y2) ∧ ((v_s.2.1 6 y2.toNatClampNeg) = ((-1 : Int32)) → PX6_finderBits_b27 v_s (PX6_finderBits_L4 v_s post n) post y1 ((0 : Int32)) y2)))))
set_option maxRecDepth 100000 in
set_option maxHeartbeats 1000000 in
theorem wX6_finderBits_L4 {v_s : OV}  {post : Int32 → Prop} {ad_s : Nat → Nat} (X : kn_X p s m args meth c cX6_finderBits 3 (some .int) RX6 kn_all D tc Z (kn_A w0 s.heap.size))    : ∀ n : Nat, ∀ (H : Heap) (locs : List Loc) (ls : Array Slot) (y1 : Int32) (y2 : Int32), kn_I D tc (kn_A w0 s.heap.size) s.heap [(kState, ad_s, v_s)] H locs → lv_has ls 3 [(0, .ref (ad_s 0)), (1, .int y1), (2, .int y2)] → PX6_finderBits_L4 v_s post n y1 y2 → W p l e rmX6_finderBits s m args below meth c H locs 0 0 (kn_Qi D tc w0 (fun (u : Unit) => [(kState, ad_s, v_s)]) (fun (r : Int32) (u : Unit) => post r) below args s 0 0) (F0 m 4 ls []) := by
  obtain ⟨S0, hr, hlocks, hK, hZ, hA⟩ := id X
  obtain ⟨hx, hb, hml, hown, hts⟩ := id S0
  intro n
  induction n with
  | zero =>
    intro H locs ls y1 y2 I hl h
    unfold PX6_finderBits_L4 at h
    exact h.elim
  | succ n ih =>
    intro H locs ls y1 y2 I hl h
    unfold PX6_finderBits_L4 at h
    refine lv_iload_n hx hb (kn_dec tX6_finderBits 4 rfl) rfl (lv_at hl 2 rfl) ?_
    refine lv_iconst (v := (4)) hx hb (kn_dec tX6_finderBits 5 rfl) (by decide) ?_
    refine lv_icmp_ge (tgt := 35) hx hb (kn_dec tX6_finderBits 6 rfl) (by decide) (fun c1 => ?_) (fun c1 => ?_)
    · have h := h.1 c1
      refine lv_iload_n hx hb (kn_dec tX6_finderBits 23 rfl) rfl (lv_at hl 1 rfl) ?_
      exact kw_iret hx hb hr hlocks I () rfl h (kn_dec tX6_finderBits 24 rfl)
    · have h := h.2 c1
      refine lv_iload_n hx hb (kn_dec tX6_finderBits 7 rfl) rfl (lv_at hl 1 rfl) ?_
      refine lv_aload_n hx hb (kn_dec tX6_finderBits 8 rfl) rfl (lv_at hl 0 rfl) ?_
      refine kw_getl hx hb hts inX6 hown hK I 0 rfl rfl 6 (by decide) rfl (hts _ q1_238) (kn_dec tX6_finderBits 9 rfl) rfl ?_
      refine lv_iload_n hx hb (kn_dec tX6_finderBits 10 rfl) rfl (lv_at hl 2 rfl) ?_
      obtain ⟨hs2, h⟩ := h
      refine kw_iald hx hb hK I 0 rfl 6 4 (List.mem_of_getElem? (i := 3) rfl) hs2 (kn_dec tX6_finderBits 11 rfl) ?_
      refine lv_iconst (v := (-1)) hx hb (kn_dec tX6_finderBits 12 rfl) (by decide) ?_
      refine lv_icmp_ne (tgt := 24) hx hb (kn_dec tX6_finderBits 13 rfl) (by decide) (fun c3 => ?_) (fun c3 => ?_)
      · have h := h.1 c3
        refine lv_iconst (v := (1)) hx hb (kn_dec tX6_finderBits 16 rfl) (by decide) ?_
        refine lv_iload_n hx hb (kn_dec tX6_finderBits 17 rfl) rfl (lv_at hl 2 rfl) ?_
        refine lv_ishl hx hb (kn_dec tX6_finderBits 18 rfl) ?_
        exact wX6_finderBits_b27 X ih _ _ _ _ _ _  I (lv_sub hl [0, 2] rfl) h
      · have h := h.2 c3
        refine lv_iconst (v := (0)) hx hb (kn_dec tX6_finderBits 14 rfl) (by decide) ?_
        refine lv_goto (tgt := 27) hx hb (kn_dec tX6_finderBits 15 rfl) (by decide) ?_
        exact wX6_finderBits_b27 X ih _ _ _ _ _ _  I (lv_sub hl [0, 2] rfl) h
def PX6_finderBits  (v_s : OV) (post : Int32 → Prop) : Prop := (∃ n1 : Nat, PX6_finderBits_L4 v_s post n1 ((0 : Int32)) ((0 : Int32)))
set_option maxRecDepth 100000 in
set_option maxHeartbeats 1000000 in
theorem ctX6_finderBits {l : Launch} {D : va_G} {tc : Nat → ClassId} {Z : (Nat → Nat) × (Nat → Nat)}  {ad_s : Nat → Nat} {v_s : OV}    {post : Int32 → Prop} (h : PX6_finderBits  v_s post) : CTi l D tc Z yX6_finderBits (Cond.code yX6_finderBits cX6_finderBits 3 (some .int) :: kn_all) rmX6_finderBits 0 0 [.ref (ad_s 0)] [(kState, ad_s, v_s)] (fun (u : Unit) => [(kState, ad_s, v_s)]) (fun (r : Int32) (u : Unit) => post r) := by
  refine kn_ofi (cc := cX6_finderBits) (nL := 3) (ret := (some .int)) (lv := [(0, .ref (ad_s 0))]) (by decide) (Nat.le_of_ble_eq_true rfl) rfl (fun p e s m below meth c ls X I hl _ => ?_)
  obtain ⟨S0, hr, hlocks, hK, hZ, hA⟩ := id X
  obtain ⟨hx, hb, hml, hown, hts⟩ := id S0
  unfold PX6_finderBits at h
  refine lv_iconst (v := (0)) hx hb (kn_dec tX6_finderBits 0 rfl) (by decide) ?_
  refine lv_istore_n (lv' := [(1, .int _), (0, .ref (ad_s 0))]) hx hb (kn_dec tX6_finderBits 1 rfl) rfl hl (by decide) rfl (fun ls hl => ?_)
  refine lv_iconst (v := (0)) hx hb (kn_dec tX6_finderBits 2 rfl) (by decide) ?_
  refine lv_istore_n (lv' := [(2, .int _), (1, .int _), (0, .ref (ad_s 0))]) hx hb (kn_dec tX6_finderBits 3 rfl) rfl hl (by decide) rfl (fun ls hl => ?_)
  obtain ⟨n1, h⟩ := h
  exact wX6_finderBits_L4 X n1 _ _ _ _ _  I (lv_sub hl [2, 1, 0] rfl) h

/-! X6_finderOn -/
abbrev rmX6_finderOn : Room := { frames := 0, cells := 0, slots := 0, locals := 0 }
def PX6_finderOn_L2 (v_s : OV)  (post : Int32 → Prop) : Nat → Int32 → Int32 → Prop
  | 0, _, _ => False
  | n + 1, y1, y2 => ((((4 : Int32)) ≤ y2 → post ((-2 : Int32))) ∧ (¬ ((4 : Int32)) ≤ y2 → (vp_in y2 4 ∧ ((¬ (v_s.2.1 6 y2.toNatClampNeg) = y1 → (∀ x4 : Int32, x4 = y2 + (1 : Int32) → PX6_finderOn_L2 v_s post n y1 x4)) ∧ ((v_s.2.1 6 y2.toNatClampNeg) = y1 → post y2)))))
set_option maxRecDepth 100000 in
set_option maxHeartbeats 1000000 in
theorem wX6_finderOn_L2 {v_s : OV}  {post : Int32 → Prop} {ad_s : Nat → Nat} (X : kn_X p s m args meth c cX6_finderOn 3 (some .int) RX6 kn_all D tc Z (kn_A w0 s.heap.size))    : ∀ n : Nat, ∀ (H : Heap) (locs : List Loc) (ls : Array Slot) (y1 : Int32) (y2 : Int32), kn_I D tc (kn_A w0 s.heap.size) s.heap [(kState, ad_s, v_s)] H locs → lv_has ls 3 [(0, .ref (ad_s 0)), (1, .int y1), (2, .int y2)] → PX6_finderOn_L2 v_s post n y1 y2 → W p l e rmX6_finderOn s m args below meth c H locs 0 0 (kn_Qi D tc w0 (fun (u : Unit) => [(kState, ad_s, v_s)]) (fun (r : Int32) (u : Unit) => post r) below args s 0 0) (F0 m 2 ls []) := by
  obtain ⟨S0, hr, hlocks, hK, hZ, hA⟩ := id X
  obtain ⟨hx, hb, hml, hown, hts⟩ := id S0
  intro n
  induction n with
  | zero =>
    intro H locs ls y1 y2 I hl h
    unfold PX6_finderOn_L2 at h
    exact h.elim
  | succ n ih =>
    intro H locs ls y1 y2 I hl h
    unfold PX6_finderOn_L2 at h
    refine lv_iload_n hx hb (kn_dec tX6_finderOn 2 rfl) rfl (lv_at hl 2 rfl) ?_
    refine lv_iconst (v := (4)) hx hb (kn_dec tX6_finderOn 3 rfl) (by decide) ?_
    refine lv_icmp_ge (tgt := 25) hx hb (kn_dec tX6_finderOn 4 rfl) (by decide) (fun c1 => ?_) (fun c1 => ?_)
    · have h := h.1 c1
      refine lv_bipush (v := (-2)) hx hb (kn_dec tX6_finderOn 15 rfl) (by decide) ?_
      exact kw_iret hx hb hr hlocks I () rfl h (kn_dec tX6_finderOn 16 rfl)
    · have h := h.2 c1
      refine lv_aload_n hx hb (kn_dec tX6_finderOn 5 rfl) rfl (lv_at hl 0 rfl) ?_
      refine kw_getl hx hb hts inX6 hown hK I 0 rfl rfl 6 (by decide) rfl (hts _ q1_238) (kn_dec tX6_finderOn 6 rfl) rfl ?_
      refine lv_iload_n hx hb (kn_dec tX6_finderOn 7 rfl) rfl (lv_at hl 2 rfl) ?_
      obtain ⟨hs2, h⟩ := h
      refine kw_iald hx hb hK I 0 rfl 6 4 (List.mem_of_getElem? (i := 3) rfl) hs2 (kn_dec tX6_finderOn 8 rfl) ?_
      refine lv_iload_n hx hb (kn_dec tX6_finderOn 9 rfl) rfl (lv_at hl 1 rfl) ?_
      refine lv_icmp_ne (tgt := 19) hx hb (kn_dec tX6_finderOn 10 rfl) (by decide) (fun c3 => ?_) (fun c3 => ?_)
      · have h := h.1 c3
        refine kw_iinc (lvf := fun y => [(2, .int y), (0, .ref (ad_s 0)), (1, .int _)]) (nv := (1)) hx hb (kn_dec tX6_finderOn 13 rfl) hl (k := 2) rfl (by decide) (by decide) (fun _ => rfl) (fun x4 ex4 ls hl => ?_)
        have h := h x4 ex4
        refine lv_goto (tgt := 2) hx hb (kn_dec tX6_finderOn 14 rfl) (by decide) ?_
        exact ih _ _ _ _ _  I (lv_sub hl [1, 2, 0] rfl) h
      · have h := h.2 c3
        refine lv_iload_n hx hb (kn_dec tX6_finderOn 11 rfl) rfl (lv_at hl 2 rfl) ?_
        exact kw_iret hx hb hr hlocks I () rfl h (kn_dec tX6_finderOn 12 rfl)
def PX6_finderOn  (v_s : OV) (a1 : Int32) (post : Int32 → Prop) : Prop := (∃ n1 : Nat, PX6_finderOn_L2 v_s post n1 a1 ((0 : Int32)))
set_option maxRecDepth 100000 in
set_option maxHeartbeats 1000000 in
theorem ctX6_finderOn {l : Launch} {D : va_G} {tc : Nat → ClassId} {Z : (Nat → Nat) × (Nat → Nat)}  {ad_s : Nat → Nat} {v_s : OV} {a1 : Int32}    {post : Int32 → Prop} (h : PX6_finderOn  v_s a1 post) : CTi l D tc Z yX6_finderOn (Cond.code yX6_finderOn cX6_finderOn 3 (some .int) :: kn_all) rmX6_finderOn 0 0 [.ref (ad_s 0), .int a1] [(kState, ad_s, v_s)] (fun (u : Unit) => [(kState, ad_s, v_s)]) (fun (r : Int32) (u : Unit) => post r) := by
  refine kn_ofi (cc := cX6_finderOn) (nL := 3) (ret := (some .int)) (lv := [(0, .ref (ad_s 0)), (1, .int a1)]) (by decide) (Nat.le_of_ble_eq_true rfl) rfl (fun p e s m below meth c ls X I hl _ => ?_)
  obtain ⟨S0, hr, hlocks, hK, hZ, hA⟩ := id X
  obtain ⟨hx, hb, hml, hown, hts⟩ := id S0
  unfold PX6_finderOn at h
  refine lv_iconst (v := (0)) hx hb (kn_dec tX6_finderOn 0 rfl) (by decide) ?_
  refine lv_istore_n (lv' := [(2, .int _), (0, .ref (ad_s 0)), (1, .int _)]) hx hb (kn_dec tX6_finderOn 1 rfl) rfl hl (by decide) rfl (fun ls hl => ?_)
  obtain ⟨n1, h⟩ := h
  exact wX6_finderOn_L2 X n1 _ _ _ _ _  I (lv_sub hl [1, 2, 0] rfl) h

/-! X6_triedBy -/
abbrev rmX6_triedBy : Room := { frames := 0, cells := 0, slots := 0, locals := 0 }
def PX6_triedBy_L4 (v_s : OV)  (post : Int32 → Prop) : Nat → Int32 → Int32 → Int32 → Prop
  | 0, _, _, _ => False
  | n + 1, y1, y2, y3 => ((((4 : Int32)) ≤ y3 → post y2) ∧ (¬ ((4 : Int32)) ≤ y3 → (vp_in y3 4 ∧ (∀ x3 : Int32, x3 = (y2 ||| ((((v_s.2.1 8 y3.toNatClampNeg) >>> (y1 &&& 31)) &&& ((1 : Int32))) <<< (y3 &&& 31))) → (∀ x4 : Int32, x4 = y3 + (1 : Int32) → PX6_triedBy_L4 v_s post n y1 x3 x4)))))
set_option maxRecDepth 100000 in
set_option maxHeartbeats 1000000 in
theorem wX6_triedBy_L4 {v_s : OV}  {post : Int32 → Prop} {ad_s : Nat → Nat} (X : kn_X p s m args meth c cX6_triedBy 4 (some .int) RX6 kn_all D tc Z (kn_A w0 s.heap.size))    : ∀ n : Nat, ∀ (H : Heap) (locs : List Loc) (ls : Array Slot) (y1 : Int32) (y2 : Int32) (y3 : Int32), kn_I D tc (kn_A w0 s.heap.size) s.heap [(kState, ad_s, v_s)] H locs → lv_has ls 4 [(0, .ref (ad_s 0)), (1, .int y1), (2, .int y2), (3, .int y3)] → PX6_triedBy_L4 v_s post n y1 y2 y3 → W p l e rmX6_triedBy s m args below meth c H locs 0 0 (kn_Qi D tc w0 (fun (u : Unit) => [(kState, ad_s, v_s)]) (fun (r : Int32) (u : Unit) => post r) below args s 0 0) (F0 m 4 ls []) := by
  obtain ⟨S0, hr, hlocks, hK, hZ, hA⟩ := id X
  obtain ⟨hx, hb, hml, hown, hts⟩ := id S0
  intro n
  induction n with
  | zero =>
    intro H locs ls y1 y2 y3 I hl h
    unfold PX6_triedBy_L4 at h
    exact h.elim
  | succ n ih =>
    intro H locs ls y1 y2 y3 I hl h
    unfold PX6_triedBy_L4 at h
    refine lv_iload_n hx hb (kn_dec tX6_triedBy 4 rfl) rfl (lv_at hl 3 rfl) ?_
    refine lv_iconst (v := (4)) hx hb (kn_dec tX6_triedBy 5 rfl) (by decide) ?_
    refine lv_icmp_ge (tgt := 30) hx hb (kn_dec tX6_triedBy 6 rfl) (by decide) (fun c1 => ?_) (fun c1 => ?_)
    · have h := h.1 c1
      refine lv_iload_n hx hb (kn_dec tX6_triedBy 22 rfl) rfl (lv_at hl 2 rfl) ?_
      exact kw_iret hx hb hr hlocks I () rfl h (kn_dec tX6_triedBy 23 rfl)
    · have h := h.2 c1
      refine lv_iload_n hx hb (kn_dec tX6_triedBy 7 rfl) rfl (lv_at hl 2 rfl) ?_
      refine lv_aload_n hx hb (kn_dec tX6_triedBy 8 rfl) rfl (lv_at hl 0 rfl) ?_
      refine kw_getl hx hb hts inX6 hown hK I 0 rfl rfl 8 (by decide) rfl (hts _ q2_4) (kn_dec tX6_triedBy 9 rfl) rfl ?_
      refine lv_iload_n hx hb (kn_dec tX6_triedBy 10 rfl) rfl (lv_at hl 3 rfl) ?_
      obtain ⟨hs2, h⟩ := h
      refine kw_iald hx hb hK I 0 rfl 8 4 (List.mem_of_getElem? (i := 5) rfl) hs2 (kn_dec tX6_triedBy 11 rfl) ?_
      refine lv_iload_n hx hb (kn_dec tX6_triedBy 12 rfl) rfl (lv_at hl 1 rfl) ?_
      refine lv_ishr hx hb (kn_dec tX6_triedBy 13 rfl) ?_
      refine lv_iconst (v := (1)) hx hb (kn_dec tX6_triedBy 14 rfl) (by decide) ?_
      refine lv_iand hx hb (kn_dec tX6_triedBy 15 rfl) ?_
      refine lv_iload_n hx hb (kn_dec tX6_triedBy 16 rfl) rfl (lv_at hl 3 rfl) ?_
      refine lv_ishl hx hb (kn_dec tX6_triedBy 17 rfl) ?_
      refine lv_ior hx hb (kn_dec tX6_triedBy 18 rfl) ?_
      refine lv_topi (fun x3 ex3 => ?_)
      have h := h x3 ex3
      refine lv_istore_n (lv' := [(2, .int _), (0, .ref (ad_s 0)), (1, .int _), (3, .int _)]) hx hb (kn_dec tX6_triedBy 19 rfl) rfl hl (by decide) rfl (fun ls hl => ?_)
      refine kw_iinc (lvf := fun y => [(3, .int y), (2, .int _), (0, .ref (ad_s 0)), (1, .int _)]) (nv := (1)) hx hb (kn_dec tX6_triedBy 20 rfl) hl (k := 3) rfl (by decide) (by decide) (fun _ => rfl) (fun x4 ex4 ls hl => ?_)
      have h := h x4 ex4
      refine lv_goto (tgt := 4) hx hb (kn_dec tX6_triedBy 21 rfl) (by decide) ?_
      exact ih _ _ _ _ _ _  I (lv_sub hl [2, 3, 1, 0] rfl) h
def PX6_triedBy  (v_s : OV) (a1 : Int32) (post : Int32 → Prop) : Prop := (∃ n1 : Nat, PX6_triedBy_L4 v_s post n1 a1 ((0 : Int32)) ((0 : Int32)))
set_option maxRecDepth 100000 in
set_option maxHeartbeats 1000000 in
theorem ctX6_triedBy {l : Launch} {D : va_G} {tc : Nat → ClassId} {Z : (Nat → Nat) × (Nat → Nat)}  {ad_s : Nat → Nat} {v_s : OV} {a1 : Int32}    {post : Int32 → Prop} (h : PX6_triedBy  v_s a1 post) : CTi l D tc Z yX6_triedBy (Cond.code yX6_triedBy cX6_triedBy 4 (some .int) :: kn_all) rmX6_triedBy 0 0 [.ref (ad_s 0), .int a1] [(kState, ad_s, v_s)] (fun (u : Unit) => [(kState, ad_s, v_s)]) (fun (r : Int32) (u : Unit) => post r) := by
  refine kn_ofi (cc := cX6_triedBy) (nL := 4) (ret := (some .int)) (lv := [(0, .ref (ad_s 0)), (1, .int a1)]) (by decide) (Nat.le_of_ble_eq_true rfl) rfl (fun p e s m below meth c ls X I hl _ => ?_)
  obtain ⟨S0, hr, hlocks, hK, hZ, hA⟩ := id X
  obtain ⟨hx, hb, hml, hown, hts⟩ := id S0
  unfold PX6_triedBy at h
  refine lv_iconst (v := (0)) hx hb (kn_dec tX6_triedBy 0 rfl) (by decide) ?_
  refine lv_istore_n (lv' := [(2, .int _), (0, .ref (ad_s 0)), (1, .int _)]) hx hb (kn_dec tX6_triedBy 1 rfl) rfl hl (by decide) rfl (fun ls hl => ?_)
  refine lv_iconst (v := (0)) hx hb (kn_dec tX6_triedBy 2 rfl) (by decide) ?_
  refine lv_istore_n (lv' := [(3, .int _), (2, .int _), (0, .ref (ad_s 0)), (1, .int _)]) hx hb (kn_dec tX6_triedBy 3 rfl) rfl hl (by decide) rfl (fun ls hl => ?_)
  obtain ⟨n1, h⟩ := h
  exact wX6_triedBy_L4 X n1 _ _ _ _ _ _  I (lv_sub hl [2, 3, 1, 0] rfl) h

/-! X6_firstWorn -/
abbrev rmX6_firstWorn : Room := { frames := 0, cells := 0, slots := 0, locals := 0 }
def PX6_firstWorn_L2 (v_s : OV) (v_h : OV)  (post : Int32 → Prop) : Nat → Int32 → Prop
  | 0, _ => False
  | n + 1, y2 => (((v_h.1 4) ≤ y2 → post ((-1 : Int32))) ∧ (¬ (v_h.1 4) ≤ y2 → (vp_in y2 10 ∧ (((v_s.2.1 3 y2.toNatClampNeg) < (v_h.1 2) → (∀ x4 : Int32, x4 = y2 + (1 : Int32) → PX6_firstWorn_L2 v_s v_h post n x4)) ∧ (¬ (v_s.2.1 3 y2.toNatClampNeg) < (v_h.1 2) → post y2)))))
set_option maxRecDepth 100000 in
set_option maxHeartbeats 1000000 in
theorem wX6_firstWorn_L2 {v_s : OV} {v_h : OV}  {post : Int32 → Prop} {ad_s : Nat → Nat} {ad_h : Nat → Nat} (X : kn_X p s m args meth c cX6_firstWorn 3 (some .int) RX6 kn_all D tc Z (kn_A w0 s.heap.size))    : ∀ n : Nat, ∀ (H : Heap) (locs : List Loc) (ls : Array Slot) (y2 : Int32), kn_I D tc (kn_A w0 s.heap.size) s.heap [(kState, ad_s, v_s), (kHill, ad_h, v_h)] H locs → lv_has ls 3 [(0, .ref (ad_s 0)), (1, .ref (ad_h 0)), (2, .int y2)] → PX6_firstWorn_L2 v_s v_h post n y2 → W p l e rmX6_firstWorn s m args below meth c H locs 0 0 (kn_Qi D tc w0 (fun (u : Unit) => [(kState, ad_s, v_s), (kHill, ad_h, v_h)]) (fun (r : Int32) (u : Unit) => post r) below args s 0 0) (F0 m 2 ls []) := by
  obtain ⟨S0, hr, hlocks, hK, hZ, hA⟩ := id X
  obtain ⟨hx, hb, hml, hown, hts⟩ := id S0
  intro n
  induction n with
  | zero =>
    intro H locs ls y2 I hl h
    unfold PX6_firstWorn_L2 at h
    exact h.elim
  | succ n ih =>
    intro H locs ls y2 I hl h
    unfold PX6_firstWorn_L2 at h
    refine lv_iload_n hx hb (kn_dec tX6_firstWorn 2 rfl) rfl (lv_at hl 2 rfl) ?_
    refine lv_aload_n hx hb (kn_dec tX6_firstWorn 3 rfl) rfl (lv_at hl 1 rfl) ?_
    refine kw_geti hx hb hts inX0 hown hK I 1 rfl rfl 4 (by decide) rfl (hts _ q1_132) (kn_dec tX6_firstWorn 4 rfl) ?_
    refine lv_icmp_ge (tgt := 31) hx hb (kn_dec tX6_firstWorn 5 rfl) (by decide) (fun c1 => ?_) (fun c1 => ?_)
    · have h := h.1 c1
      refine lv_iconst (v := (-1)) hx hb (kn_dec tX6_firstWorn 17 rfl) (by decide) ?_
      exact kw_iret hx hb hr hlocks I () rfl h (kn_dec tX6_firstWorn 18 rfl)
    · have h := h.2 c1
      refine lv_aload_n hx hb (kn_dec tX6_firstWorn 6 rfl) rfl (lv_at hl 0 rfl) ?_
      refine kw_getl hx hb hts inX6 hown hK I 0 rfl rfl 3 (by decide) rfl (hts _ q1_228) (kn_dec tX6_firstWorn 7 rfl) rfl ?_
      refine lv_iload_n hx hb (kn_dec tX6_firstWorn 8 rfl) rfl (lv_at hl 2 rfl) ?_
      obtain ⟨hs2, h⟩ := h
      refine kw_iald hx hb hK I 0 rfl 3 10 (List.mem_of_getElem? (i := 0) rfl) hs2 (kn_dec tX6_firstWorn 9 rfl) ?_
      refine lv_aload_n hx hb (kn_dec tX6_firstWorn 10 rfl) rfl (lv_at hl 1 rfl) ?_
      refine kw_geti hx hb hts inX0 hown hK I 1 rfl rfl 2 (by decide) rfl (hts _ q1_123) (kn_dec tX6_firstWorn 11 rfl) ?_
      refine lv_icmp_lt (tgt := 25) hx hb (kn_dec tX6_firstWorn 12 rfl) (by decide) (fun c3 => ?_) (fun c3 => ?_)
      · have h := h.1 c3
        refine kw_iinc (lvf := fun y => [(2, .int y), (0, .ref (ad_s 0)), (1, .ref (ad_h 0))]) (nv := (1)) hx hb (kn_dec tX6_firstWorn 15 rfl) hl (k := 2) rfl (by decide) (by decide) (fun _ => rfl) (fun x4 ex4 ls hl => ?_)
        have h := h x4 ex4
        refine lv_goto (tgt := 2) hx hb (kn_dec tX6_firstWorn 16 rfl) (by decide) ?_
        exact ih _ _ _ _  I (lv_sub hl [1, 2, 0] rfl) h
      · have h := h.2 c3
        refine lv_iload_n hx hb (kn_dec tX6_firstWorn 13 rfl) rfl (lv_at hl 2 rfl) ?_
        exact kw_iret hx hb hr hlocks I () rfl h (kn_dec tX6_firstWorn 14 rfl)
def PX6_firstWorn  (v_s : OV) (v_h : OV) (post : Int32 → Prop) : Prop := (∃ n1 : Nat, PX6_firstWorn_L2 v_s v_h post n1 ((0 : Int32)))
set_option maxRecDepth 100000 in
set_option maxHeartbeats 1000000 in
theorem ctX6_firstWorn {l : Launch} {D : va_G} {tc : Nat → ClassId} {Z : (Nat → Nat) × (Nat → Nat)}  {ad_s : Nat → Nat} {ad_h : Nat → Nat} {v_s : OV} {v_h : OV}    {post : Int32 → Prop} (h : PX6_firstWorn  v_s v_h post) : CTi l D tc Z yX6_firstWorn (Cond.code yX6_firstWorn cX6_firstWorn 3 (some .int) :: kn_all) rmX6_firstWorn 0 0 [.ref (ad_s 0), .ref (ad_h 0)] [(kState, ad_s, v_s), (kHill, ad_h, v_h)] (fun (u : Unit) => [(kState, ad_s, v_s), (kHill, ad_h, v_h)]) (fun (r : Int32) (u : Unit) => post r) := by
  refine kn_ofi (cc := cX6_firstWorn) (nL := 3) (ret := (some .int)) (lv := [(0, .ref (ad_s 0)), (1, .ref (ad_h 0))]) (by decide) (Nat.le_of_ble_eq_true rfl) rfl (fun p e s m below meth c ls X I hl _ => ?_)
  obtain ⟨S0, hr, hlocks, hK, hZ, hA⟩ := id X
  obtain ⟨hx, hb, hml, hown, hts⟩ := id S0
  unfold PX6_firstWorn at h
  refine lv_iconst (v := (0)) hx hb (kn_dec tX6_firstWorn 0 rfl) (by decide) ?_
  refine lv_istore_n (lv' := [(2, .int _), (0, .ref (ad_s 0)), (1, .ref (ad_h 0))]) hx hb (kn_dec tX6_firstWorn 1 rfl) rfl hl (by decide) rfl (fun ls hl => ?_)
  obtain ⟨n1, h⟩ := h
  exact wX6_firstWorn_L2 X n1 _ _ _ _  I (lv_sub hl [1, 2, 0] rfl) h

/-! X3_clear -/
abbrev rmX3_clear : Room := { frames := 0, cells := 0, slots := 0, locals := 0 }
def PX3_clear  (v_u : OV) (post : OV → Prop) : Prop := (∀ v_u1 : OV, v_u1 = si v_u 1 ((0 : Int32)) → (∀ v_u2 : OV, v_u2 = si v_u1 4 ((0 : Int32)) → post v_u2))
set_option maxRecDepth 100000 in
set_option maxHeartbeats 1000000 in
theorem ctX3_clear {l : Launch} {D : va_G} {tc : Nat → ClassId} {Z : (Nat → Nat) × (Nat → Nat)}  {ad_u : Nat → Nat} {v_u : OV}    {post : OV → Prop} (h : PX3_clear  v_u post) : CTv l D tc Z yX3_clear (Cond.code yX3_clear cX3_clear 1 none :: kn_all) rmX3_clear 0 0 [.ref (ad_u 0)] [(kRule, ad_u, v_u)] (fun (u : OV) => [(kRule, ad_u, u)]) (fun (u : OV) => post u) := by
  refine kn_ofv (cc := cX3_clear) (nL := 1) (ret := none) (lv := [(0, .ref (ad_u 0))]) (by decide) (Nat.le_of_ble_eq_true rfl) rfl (fun p e s m below meth c ls X I hl _ => ?_)
  obtain ⟨S0, hr, hlocks, hK, hZ, hA⟩ := id X
  obtain ⟨hx, hb, hml, hown, hts⟩ := id S0
  unfold PX3_clear at h
  refine lv_aload_n hx hb (kn_dec tX3_clear 0 rfl) rfl (lv_at hl 0 rfl) ?_
  refine lv_iconst (v := (0)) hx hb (kn_dec tX3_clear 1 rfl) (by decide) ?_
  refine kw_puti hx hb hts inX3 tyX3 tyX3_ok nmX3 hown hK I 0 rfl rfl 1 (by decide) rfl (hts _ q1_75) rfl rfl rfl (kn_dec tX3_clear 2 rfl) (fun v_u1 ev_u1 H locs I => ?_)
  have h := h v_u1 ev_u1
  have I : kn_I D tc (kn_A _ s.heap.size) s.heap [(kRule, ad_u, _)] _ _ := I
  refine lv_aload_n hx hb (kn_dec tX3_clear 3 rfl) rfl (lv_at hl 0 rfl) ?_
  refine lv_iconst (v := (0)) hx hb (kn_dec tX3_clear 4 rfl) (by decide) ?_
  refine kw_puti hx hb hts inX3 tyX3 tyX3_ok nmX3 hown hK I 0 rfl rfl 4 (by decide) rfl (hts _ q1_78) rfl rfl rfl (kn_dec tX3_clear 5 rfl) (fun v_u2 ev_u2 H locs I => ?_)
  have h := h v_u2 ev_u2
  have I : kn_I D tc (kn_A _ s.heap.size) s.heap [(kRule, ad_u, _)] _ _ := I
  exact kw_vret hx hb hr hlocks I _ rfl h (kn_dec tX3_clear 6 rfl)

/-! X3_put -/
abbrev rmX3_put : Room := { frames := 0, cells := 0, slots := 0, locals := 0 }
def PX3_put  (v_u : OV) (a1 : Int32) (post : OV → Prop) : Prop := ((((400 : Int32)) ≤ (v_u.1 1) → post v_u) ∧ (¬ ((400 : Int32)) ≤ (v_u.1 1) → (vp_in (v_u.1 1) 400 ∧ (∀ v_u3 : OV, v_u3 = sa v_u 0 (upd (v_u.2.1 0) (v_u.1 1).toNatClampNeg a1) → (∀ x4 : Int32, x4 = ((v_u3.1 1) + ((1 : Int32))) → (∀ v_u5 : OV, v_u5 = si v_u3 1 x4 → post v_u5))))))
set_option maxRecDepth 100000 in
set_option maxHeartbeats 1000000 in
theorem ctX3_put {l : Launch} {D : va_G} {tc : Nat → ClassId} {Z : (Nat → Nat) × (Nat → Nat)}  {ad_u : Nat → Nat} {v_u : OV} {a1 : Int32}    {post : OV → Prop} (h : PX3_put  v_u a1 post) : CTv l D tc Z yX3_put (Cond.code yX3_put cX3_put 2 none :: kn_all) rmX3_put 0 0 [.ref (ad_u 0), .int a1] [(kRule, ad_u, v_u)] (fun (u : OV) => [(kRule, ad_u, u)]) (fun (u : OV) => post u) := by
  refine kn_ofv (cc := cX3_put) (nL := 2) (ret := none) (lv := [(0, .ref (ad_u 0)), (1, .int a1)]) (by decide) (Nat.le_of_ble_eq_true rfl) rfl (fun p e s m below meth c ls X I hl _ => ?_)
  obtain ⟨S0, hr, hlocks, hK, hZ, hA⟩ := id X
  obtain ⟨hx, hb, hml, hown, hts⟩ := id S0
  unfold PX3_put at h
  refine lv_aload_n hx hb (kn_dec tX3_put 0 rfl) rfl (lv_at hl 0 rfl) ?_
  refine kw_geti hx hb hts inX3 hown hK I 0 rfl rfl 1 (by decide) rfl (hts _ q1_75) (kn_dec tX3_put 1 rfl) ?_
  refine lv_aload_n hx hb (kn_dec tX3_put 2 rfl) rfl (lv_at hl 0 rfl) ?_
  refine kw_getl hx hb hts inX3 hown hK I 0 rfl rfl 0 (by decide) rfl (hts _ q1_74) (kn_dec tX3_put 3 rfl) rfl ?_
  refine kw_alen hx hb hK I 0 rfl 0 0 400 (List.mem_of_getElem? (i := 0) rfl) rfl (x := 400) (by decide) (kn_dec tX3_put 4 rfl) ?_
  refine lv_icmp_ge (tgt := 32) hx hb (kn_dec tX3_put 5 rfl) (by decide) (fun c1 => ?_) (fun c1 => ?_)
  · have h := h.1 c1
    exact kw_vret hx hb hr hlocks I _ rfl h (kn_dec tX3_put 18 rfl)
  · have h := h.2 c1
    refine lv_aload_n hx hb (kn_dec tX3_put 6 rfl) rfl (lv_at hl 0 rfl) ?_
    refine kw_getl hx hb hts inX3 hown hK I 0 rfl rfl 0 (by decide) rfl (hts _ q1_74) (kn_dec tX3_put 7 rfl) rfl ?_
    refine lv_aload_n hx hb (kn_dec tX3_put 8 rfl) rfl (lv_at hl 0 rfl) ?_
    refine kw_geti hx hb hts inX3 hown hK I 0 rfl rfl 1 (by decide) rfl (hts _ q1_75) (kn_dec tX3_put 9 rfl) ?_
    refine lv_iload_n hx hb (kn_dec tX3_put 10 rfl) rfl (lv_at hl 1 rfl) ?_
    obtain ⟨hs2, h⟩ := h
    refine kw_iast hx hb hK I 0 rfl 0 400 (List.mem_of_getElem? (i := 0) rfl) ukRule_0 hs2 (kn_dec tX3_put 11 rfl) (fun v_u3 ev_u3 H locs I => ?_)
    have h := h v_u3 ev_u3
    have I : kn_I D tc (kn_A _ s.heap.size) s.heap [(kRule, ad_u, _)] _ _ := I
    refine lv_aload_n hx hb (kn_dec tX3_put 12 rfl) rfl (lv_at hl 0 rfl) ?_
    refine lv_dup hx hb (kn_dec tX3_put 13 rfl) rfl ?_
    refine kw_geti hx hb hts inX3 hown hK I 0 rfl rfl 1 (by decide) rfl (hts _ q1_75) (kn_dec tX3_put 14 rfl) ?_
    refine lv_iconst (v := (1)) hx hb (kn_dec tX3_put 15 rfl) (by decide) ?_
    refine lv_iadd hx hb (kn_dec tX3_put 16 rfl) ?_
    refine lv_topi (fun x4 ex4 => ?_)
    have h := h x4 ex4
    refine kw_puti hx hb hts inX3 tyX3 tyX3_ok nmX3 hown hK I 0 rfl rfl 1 (by decide) rfl (hts _ q1_75) rfl rfl rfl (kn_dec tX3_put 17 rfl) (fun v_u5 ev_u5 H locs I => ?_)
    have h := h v_u5 ev_u5
    have I : kn_I D tc (kn_A _ s.heap.size) s.heap [(kRule, ad_u, _)] _ _ := I
    exact kw_vret hx hb hr hlocks I _ rfl h (kn_dec tX3_put 18 rfl)

/-! X3_beginTest -/
abbrev rmX3_beginTest : Room := { frames := 0, cells := 0, slots := 0, locals := 0 }
def PX3_beginTest  (v_u : OV) (post : OV → Prop) : Prop := ((((12 : Int32)) ≤ (v_u.1 4) → post v_u) ∧ (¬ ((12 : Int32)) ≤ (v_u.1 4) → (∀ x2 : Int32, x2 = (v_u.1 1) → (vp_in (v_u.1 4) 12 ∧ (∀ v_u4 : OV, v_u4 = sa v_u 3 (upd (v_u.2.1 3) (v_u.1 4).toNatClampNeg x2) → post v_u4)))))
set_option maxRecDepth 100000 in
set_option maxHeartbeats 1000000 in
theorem ctX3_beginTest {l : Launch} {D : va_G} {tc : Nat → ClassId} {Z : (Nat → Nat) × (Nat → Nat)}  {ad_u : Nat → Nat} {v_u : OV}    {post : OV → Prop} (h : PX3_beginTest  v_u post) : CTv l D tc Z yX3_beginTest (Cond.code yX3_beginTest cX3_beginTest 1 none :: kn_all) rmX3_beginTest 0 0 [.ref (ad_u 0)] [(kRule, ad_u, v_u)] (fun (u : OV) => [(kRule, ad_u, u)]) (fun (u : OV) => post u) := by
  refine kn_ofv (cc := cX3_beginTest) (nL := 1) (ret := none) (lv := [(0, .ref (ad_u 0))]) (by decide) (Nat.le_of_ble_eq_true rfl) rfl (fun p e s m below meth c ls X I hl _ => ?_)
  obtain ⟨S0, hr, hlocks, hK, hZ, hA⟩ := id X
  obtain ⟨hx, hb, hml, hown, hts⟩ := id S0
  unfold PX3_beginTest at h
  refine lv_aload_n hx hb (kn_dec tX3_beginTest 0 rfl) rfl (lv_at hl 0 rfl) ?_
  refine kw_geti hx hb hts inX3 hown hK I 0 rfl rfl 4 (by decide) rfl (hts _ q1_78) (kn_dec tX3_beginTest 1 rfl) ?_
  refine lv_bipush (v := (12)) hx hb (kn_dec tX3_beginTest 2 rfl) (by decide) ?_
  refine lv_icmp_ge (tgt := 22) hx hb (kn_dec tX3_beginTest 3 rfl) (by decide) (fun c1 => ?_) (fun c1 => ?_)
  · have h := h.1 c1
    exact kw_vret hx hb hr hlocks I _ rfl h (kn_dec tX3_beginTest 11 rfl)
  · have h := h.2 c1
    refine lv_aload_n hx hb (kn_dec tX3_beginTest 4 rfl) rfl (lv_at hl 0 rfl) ?_
    refine kw_getl hx hb hts inX3 hown hK I 0 rfl rfl 3 (by decide) rfl (hts _ q1_77) (kn_dec tX3_beginTest 5 rfl) rfl ?_
    refine lv_aload_n hx hb (kn_dec tX3_beginTest 6 rfl) rfl (lv_at hl 0 rfl) ?_
    refine kw_geti hx hb hts inX3 hown hK I 0 rfl rfl 4 (by decide) rfl (hts _ q1_78) (kn_dec tX3_beginTest 7 rfl) ?_
    refine lv_aload_n hx hb (kn_dec tX3_beginTest 8 rfl) rfl (lv_at hl 0 rfl) ?_
    refine kw_geti hx hb hts inX3 hown hK I 0 rfl rfl 1 (by decide) rfl (hts _ q1_75) (kn_dec tX3_beginTest 9 rfl) ?_
    refine lv_topi (fun x2 ex2 => ?_)
    have h := h x2 ex2
    obtain ⟨hs3, h⟩ := h
    refine kw_iast hx hb hK I 0 rfl 3 12 (List.mem_of_getElem? (i := 2) rfl) ukRule_3 hs3 (kn_dec tX3_beginTest 10 rfl) (fun v_u4 ev_u4 H locs I => ?_)
    have h := h v_u4 ev_u4
    have I : kn_I D tc (kn_A _ s.heap.size) s.heap [(kRule, ad_u, _)] _ _ := I
    exact kw_vret hx hb hr hlocks I _ rfl h (kn_dec tX3_beginTest 11 rfl)

/-! X3_endClause -/
abbrev rmX3_endClause : Room := { frames := 0, cells := 0, slots := 0, locals := 0 }
def PX3_endClause  (v_u : OV) (post : OV → Prop) : Prop := ((((12 : Int32)) ≤ (v_u.1 4) → post v_u) ∧ (¬ ((12 : Int32)) ≤ (v_u.1 4) → (∀ x2 : Int32, x2 = ((v_u.1 4) + ((1 : Int32))) → (∀ v_u3 : OV, v_u3 = si v_u 4 x2 → (∀ x4 : Int32, x4 = (v_u3.1 1) → (vp_in (v_u3.1 4) 13 ∧ (∀ v_u6 : OV, v_u6 = sa v_u3 2 (upd (v_u3.2.1 2) (v_u3.1 4).toNatClampNeg x4) → post v_u6)))))))
set_option maxRecDepth 100000 in
set_option maxHeartbeats 1000000 in
theorem ctX3_endClause {l : Launch} {D : va_G} {tc : Nat → ClassId} {Z : (Nat → Nat) × (Nat → Nat)}  {ad_u : Nat → Nat} {v_u : OV}    {post : OV → Prop} (h : PX3_endClause  v_u post) : CTv l D tc Z yX3_endClause (Cond.code yX3_endClause cX3_endClause 1 none :: kn_all) rmX3_endClause 0 0 [.ref (ad_u 0)] [(kRule, ad_u, v_u)] (fun (u : OV) => [(kRule, ad_u, u)]) (fun (u : OV) => post u) := by
  refine kn_ofv (cc := cX3_endClause) (nL := 1) (ret := none) (lv := [(0, .ref (ad_u 0))]) (by decide) (Nat.le_of_ble_eq_true rfl) rfl (fun p e s m below meth c ls X I hl _ => ?_)
  obtain ⟨S0, hr, hlocks, hK, hZ, hA⟩ := id X
  obtain ⟨hx, hb, hml, hown, hts⟩ := id S0
  unfold PX3_endClause at h
  refine lv_aload_n hx hb (kn_dec tX3_endClause 0 rfl) rfl (lv_at hl 0 rfl) ?_
  refine kw_geti hx hb hts inX3 hown hK I 0 rfl rfl 4 (by decide) rfl (hts _ q1_78) (kn_dec tX3_endClause 1 rfl) ?_
  refine lv_bipush (v := (12)) hx hb (kn_dec tX3_endClause 2 rfl) (by decide) ?_
  refine lv_icmp_ge (tgt := 32) hx hb (kn_dec tX3_endClause 3 rfl) (by decide) (fun c1 => ?_) (fun c1 => ?_)
  · have h := h.1 c1
    exact kw_vret hx hb hr hlocks I _ rfl h (kn_dec tX3_endClause 17 rfl)
  · have h := h.2 c1
    refine lv_aload_n hx hb (kn_dec tX3_endClause 4 rfl) rfl (lv_at hl 0 rfl) ?_
    refine lv_dup hx hb (kn_dec tX3_endClause 5 rfl) rfl ?_
    refine kw_geti hx hb hts inX3 hown hK I 0 rfl rfl 4 (by decide) rfl (hts _ q1_78) (kn_dec tX3_endClause 6 rfl) ?_
    refine lv_iconst (v := (1)) hx hb (kn_dec tX3_endClause 7 rfl) (by decide) ?_
    refine lv_iadd hx hb (kn_dec tX3_endClause 8 rfl) ?_
    refine lv_topi (fun x2 ex2 => ?_)
    have h := h x2 ex2
    refine kw_puti hx hb hts inX3 tyX3 tyX3_ok nmX3 hown hK I 0 rfl rfl 4 (by decide) rfl (hts _ q1_78) rfl rfl rfl (kn_dec tX3_endClause 9 rfl) (fun v_u3 ev_u3 H locs I => ?_)
    have h := h v_u3 ev_u3
    have I : kn_I D tc (kn_A _ s.heap.size) s.heap [(kRule, ad_u, _)] _ _ := I
    refine lv_aload_n hx hb (kn_dec tX3_endClause 10 rfl) rfl (lv_at hl 0 rfl) ?_
    refine kw_getl hx hb hts inX3 hown hK I 0 rfl rfl 2 (by decide) rfl (hts _ q1_76) (kn_dec tX3_endClause 11 rfl) rfl ?_
    refine lv_aload_n hx hb (kn_dec tX3_endClause 12 rfl) rfl (lv_at hl 0 rfl) ?_
    refine kw_geti hx hb hts inX3 hown hK I 0 rfl rfl 4 (by decide) rfl (hts _ q1_78) (kn_dec tX3_endClause 13 rfl) ?_
    refine lv_aload_n hx hb (kn_dec tX3_endClause 14 rfl) rfl (lv_at hl 0 rfl) ?_
    refine kw_geti hx hb hts inX3 hown hK I 0 rfl rfl 1 (by decide) rfl (hts _ q1_75) (kn_dec tX3_endClause 15 rfl) ?_
    refine lv_topi (fun x4 ex4 => ?_)
    have h := h x4 ex4
    obtain ⟨hs5, h⟩ := h
    refine kw_iast hx hb hK I 0 rfl 2 13 (List.mem_of_getElem? (i := 1) rfl) ukRule_2 hs5 (kn_dec tX3_endClause 16 rfl) (fun v_u6 ev_u6 H locs I => ?_)
    have h := h v_u6 ev_u6
    have I : kn_I D tc (kn_A _ s.heap.size) s.heap [(kRule, ad_u, _)] _ _ := I
    exact kw_vret hx hb hr hlocks I _ rfl h (kn_dec tX3_endClause 17 rfl)

/-! X3_joined -/
abbrev rmX3_joined : Room := { frames := 0, cells := 0, slots := 0, locals := 0 }
def PX3_joined  (a0 : Int32) (a1 : Int64) (a2 : Int64) (post : Int64 → Prop) : Prop := ((a0 = (-25 : Int32) → post (a1 &&& a2)) ∧ (¬ a0 = (-25 : Int32) → ((a0 = (-24 : Int32) → (((lg_cmp a1 a2) ≤ ((0 : Int32)) → post ((0 : Int64))) ∧ (¬ (lg_cmp a1 a2) ≤ ((0 : Int32)) → post ((1 : Int64))))) ∧ (¬ a0 = (-24 : Int32) → ((a0 = (-23 : Int32) → (((lg_cmp a1 a2) < ((0 : Int32)) → post ((0 : Int64))) ∧ (¬ (lg_cmp a1 a2) < ((0 : Int32)) → post ((1 : Int64))))) ∧ (¬ a0 = (-23 : Int32) → ((a0 = (-22 : Int32) → ((¬ (lg_cmp a1 a2) = ((0 : Int32)) → post ((0 : Int64))) ∧ ((lg_cmp a1 a2) = ((0 : Int32)) → post ((1 : Int64))))) ∧ (¬ a0 = (-22 : Int32) → ((a0 = (-21 : Int32) → ((((0 : Int32)) < (lg_cmp a1 a2) → post ((0 : Int64))) ∧ (¬ ((0 : Int32)) < (lg_cmp a1 a2) → post ((1 : Int64))))) ∧ (¬ a0 = (-21 : Int32) → ((a0 = (-20 : Int32) → ((((0 : Int32)) ≤ (lg_cmp a1 a2) → post ((0 : Int64))) ∧ (¬ ((0 : Int32)) ≤ (lg_cmp a1 a2) → post ((1 : Int64))))) ∧ (¬ a0 = (-20 : Int32) → ((a0 = (-19 : Int32) → ((¬ (lg_cmp a2 ((0 : Int64))) = ((0 : Int32)) → (¬ a2 = 0 ∧ post (a1 - a1 / a2 * a2))) ∧ ((lg_cmp a2 ((0 : Int64))) = ((0 : Int32)) → post ((0 : Int64))))) ∧ (¬ a0 = (-19 : Int32) → ((a0 = (-18 : Int32) → ((¬ (lg_cmp a2 ((0 : Int64))) = ((0 : Int32)) → (¬ a2 = 0 ∧ post (a1 / a2))) ∧ ((lg_cmp a2 ((0 : Int64))) = ((0 : Int32)) → post ((0 : Int64))))) ∧ (¬ a0 = (-18 : Int32) → ((a0 = (-17 : Int32) → post (a1 * a2)) ∧ (¬ a0 = (-17 : Int32) → ((a0 = (-16 : Int32) → post (a1 - a2)) ∧ (¬ a0 = (-16 : Int32) → ((a0 = (-15 : Int32) → post (a1 + a2)) ∧ (¬ a0 = (-15 : Int32) → post (a1 ||| a2)))))))))))))))))))))))
set_option maxRecDepth 100000 in
set_option maxHeartbeats 1000000 in
theorem ctX3_joined {l : Launch} {D : va_G} {tc : Nat → ClassId} {Z : (Nat → Nat) × (Nat → Nat)}   {a0 : Int32} {a1 : Int64} {a2 : Int64}    {post : Int64 → Prop} (h : PX3_joined  a0 a1 a2 post) : CTl l D tc Z yX3_joined (Cond.code yX3_joined cX3_joined 5 (some .long) :: kn_all) rmX3_joined 0 0 [.int a0, .long a1, .long a2] [] (fun (u : Unit) => []) (fun (r : Int64) (u : Unit) => post r) := by
  refine kn_ofl (cc := cX3_joined) (nL := 5) (ret := (some .long)) (lv := [(0, .int a0), (1, .long a1), (3, .long a2)]) (by decide) (Nat.le_of_ble_eq_true rfl) rfl (fun p e s m below meth c ls X I hl _ => ?_)
  obtain ⟨S0, hr, hlocks, hK, hZ, hA⟩ := id X
  obtain ⟨hx, hb, hml, hown, hts⟩ := id S0
  unfold PX3_joined at h
  refine lv_iload_n hx hb (kn_dec tX3_joined 0 rfl) rfl (lv_at hl 0 rfl) ?_
  rcases Classical.em (a0 = (-25 : Int32)) with c1 | c1
  · have h := h.1 c1
    refine lv_tableIn (off := 159) (tgt := 160) hx hb (kn_dec tX3_joined 1 rfl) (by rw [c1]; decide) (by rw [c1]; decide) (by rw [c1]; rfl) (by decide) ?_
    refine lv_lload_n hx hb (kn_dec tX3_joined 74 rfl) rfl (lv_at hl 1 rfl) ?_
    refine lv_lload_n hx hb (kn_dec tX3_joined 75 rfl) rfl (lv_at hl 2 rfl) ?_
    refine lv_land hx hb (kn_dec tX3_joined 76 rfl) ?_
    exact kw_lret hx hb hr hlocks I () rfl h (kn_dec tX3_joined 77 rfl)
  · have h := h.2 c1
    rcases Classical.em (a0 = (-24 : Int32)) with c2 | c2
    · have h := h.1 c2
      refine lv_tableIn (off := 147) (tgt := 148) hx hb (kn_dec tX3_joined 1 rfl) (by rw [c2]; decide) (by rw [c2]; decide) (by rw [c2]; rfl) (by decide) ?_
      refine lv_lload_n hx hb (kn_dec tX3_joined 66 rfl) rfl (lv_at hl 1 rfl) ?_
      refine lv_lload_n hx hb (kn_dec tX3_joined 67 rfl) rfl (lv_at hl 2 rfl) ?_
      refine W.lcmp hx hb (kn_dec tX3_joined 68 rfl) ?_
      refine lv_if_le (tgt := 158) hx hb (kn_dec tX3_joined 69 rfl) (by decide) (fun c3 => ?_) (fun c3 => ?_)
      · have h := h.1 c3
        refine lv_lconst (v := 0) hx hb (kn_dec tX3_joined 72 rfl) (by decide) ?_
        exact kw_lret hx hb hr hlocks I () rfl h (kn_dec tX3_joined 73 rfl)
      · have h := h.2 c3
        refine lv_lconst (v := 1) hx hb (kn_dec tX3_joined 70 rfl) (by decide) ?_
        refine lv_goto (tgt := 159) hx hb (kn_dec tX3_joined 71 rfl) (by decide) ?_
        exact kw_lret hx hb hr hlocks I () rfl h (kn_dec tX3_joined 73 rfl)
    · have h := h.2 c2
      rcases Classical.em (a0 = (-23 : Int32)) with c4 | c4
      · have h := h.1 c4
        refine lv_tableIn (off := 135) (tgt := 136) hx hb (kn_dec tX3_joined 1 rfl) (by rw [c4]; decide) (by rw [c4]; decide) (by rw [c4]; rfl) (by decide) ?_
        refine lv_lload_n hx hb (kn_dec tX3_joined 58 rfl) rfl (lv_at hl 1 rfl) ?_
        refine lv_lload_n hx hb (kn_dec tX3_joined 59 rfl) rfl (lv_at hl 2 rfl) ?_
        refine W.lcmp hx hb (kn_dec tX3_joined 60 rfl) ?_
        refine lv_if_lt (tgt := 146) hx hb (kn_dec tX3_joined 61 rfl) (by decide) (fun c5 => ?_) (fun c5 => ?_)
        · have h := h.1 c5
          refine lv_lconst (v := 0) hx hb (kn_dec tX3_joined 64 rfl) (by decide) ?_
          exact kw_lret hx hb hr hlocks I () rfl h (kn_dec tX3_joined 65 rfl)
        · have h := h.2 c5
          refine lv_lconst (v := 1) hx hb (kn_dec tX3_joined 62 rfl) (by decide) ?_
          refine lv_goto (tgt := 147) hx hb (kn_dec tX3_joined 63 rfl) (by decide) ?_
          exact kw_lret hx hb hr hlocks I () rfl h (kn_dec tX3_joined 65 rfl)
      · have h := h.2 c4
        rcases Classical.em (a0 = (-22 : Int32)) with c6 | c6
        · have h := h.1 c6
          refine lv_tableIn (off := 123) (tgt := 124) hx hb (kn_dec tX3_joined 1 rfl) (by rw [c6]; decide) (by rw [c6]; decide) (by rw [c6]; rfl) (by decide) ?_
          refine lv_lload_n hx hb (kn_dec tX3_joined 50 rfl) rfl (lv_at hl 1 rfl) ?_
          refine lv_lload_n hx hb (kn_dec tX3_joined 51 rfl) rfl (lv_at hl 2 rfl) ?_
          refine W.lcmp hx hb (kn_dec tX3_joined 52 rfl) ?_
          refine lv_if_ne (tgt := 134) hx hb (kn_dec tX3_joined 53 rfl) (by decide) (fun c7 => ?_) (fun c7 => ?_)
          · have h := h.1 c7
            refine lv_lconst (v := 0) hx hb (kn_dec tX3_joined 56 rfl) (by decide) ?_
            exact kw_lret hx hb hr hlocks I () rfl h (kn_dec tX3_joined 57 rfl)
          · have h := h.2 c7
            refine lv_lconst (v := 1) hx hb (kn_dec tX3_joined 54 rfl) (by decide) ?_
            refine lv_goto (tgt := 135) hx hb (kn_dec tX3_joined 55 rfl) (by decide) ?_
            exact kw_lret hx hb hr hlocks I () rfl h (kn_dec tX3_joined 57 rfl)
        · have h := h.2 c6
          rcases Classical.em (a0 = (-21 : Int32)) with c8 | c8
          · have h := h.1 c8
            refine lv_tableIn (off := 111) (tgt := 112) hx hb (kn_dec tX3_joined 1 rfl) (by rw [c8]; decide) (by rw [c8]; decide) (by rw [c8]; rfl) (by decide) ?_
            refine lv_lload_n hx hb (kn_dec tX3_joined 42 rfl) rfl (lv_at hl 1 rfl) ?_
            refine lv_lload_n hx hb (kn_dec tX3_joined 43 rfl) rfl (lv_at hl 2 rfl) ?_
            refine W.lcmp hx hb (kn_dec tX3_joined 44 rfl) ?_
            refine lv_if_gt (tgt := 122) hx hb (kn_dec tX3_joined 45 rfl) (by decide) (fun c9 => ?_) (fun c9 => ?_)
            · have h := h.1 c9
              refine lv_lconst (v := 0) hx hb (kn_dec tX3_joined 48 rfl) (by decide) ?_
              exact kw_lret hx hb hr hlocks I () rfl h (kn_dec tX3_joined 49 rfl)
            · have h := h.2 c9
              refine lv_lconst (v := 1) hx hb (kn_dec tX3_joined 46 rfl) (by decide) ?_
              refine lv_goto (tgt := 123) hx hb (kn_dec tX3_joined 47 rfl) (by decide) ?_
              exact kw_lret hx hb hr hlocks I () rfl h (kn_dec tX3_joined 49 rfl)
          · have h := h.2 c8
            rcases Classical.em (a0 = (-20 : Int32)) with c10 | c10
            · have h := h.1 c10
              refine lv_tableIn (off := 99) (tgt := 100) hx hb (kn_dec tX3_joined 1 rfl) (by rw [c10]; decide) (by rw [c10]; decide) (by rw [c10]; rfl) (by decide) ?_
              refine lv_lload_n hx hb (kn_dec tX3_joined 34 rfl) rfl (lv_at hl 1 rfl) ?_
              refine lv_lload_n hx hb (kn_dec tX3_joined 35 rfl) rfl (lv_at hl 2 rfl) ?_
              refine W.lcmp hx hb (kn_dec tX3_joined 36 rfl) ?_
              refine lv_if_ge (tgt := 110) hx hb (kn_dec tX3_joined 37 rfl) (by decide) (fun c11 => ?_) (fun c11 => ?_)
              · have h := h.1 c11
                refine lv_lconst (v := 0) hx hb (kn_dec tX3_joined 40 rfl) (by decide) ?_
                exact kw_lret hx hb hr hlocks I () rfl h (kn_dec tX3_joined 41 rfl)
              · have h := h.2 c11
                refine lv_lconst (v := 1) hx hb (kn_dec tX3_joined 38 rfl) (by decide) ?_
                refine lv_goto (tgt := 111) hx hb (kn_dec tX3_joined 39 rfl) (by decide) ?_
                exact kw_lret hx hb hr hlocks I () rfl h (kn_dec tX3_joined 41 rfl)
            · have h := h.2 c10
              rcases Classical.em (a0 = (-19 : Int32)) with c12 | c12
              · have h := h.1 c12
                refine lv_tableIn (off := 85) (tgt := 86) hx hb (kn_dec tX3_joined 1 rfl) (by rw [c12]; decide) (by rw [c12]; decide) (by rw [c12]; rfl) (by decide) ?_
                refine lv_lload_n hx hb (kn_dec tX3_joined 24 rfl) rfl (lv_at hl 2 rfl) ?_
                refine lv_lconst (v := 0) hx hb (kn_dec tX3_joined 25 rfl) (by decide) ?_
                refine W.lcmp hx hb (kn_dec tX3_joined 26 rfl) ?_
                refine lv_if_ne (tgt := 96) hx hb (kn_dec tX3_joined 27 rfl) (by decide) (fun c13 => ?_) (fun c13 => ?_)
                · have h := h.1 c13
                  refine lv_lload_n hx hb (kn_dec tX3_joined 30 rfl) rfl (lv_at hl 1 rfl) ?_
                  refine lv_lload_n hx hb (kn_dec tX3_joined 31 rfl) rfl (lv_at hl 2 rfl) ?_
                  obtain ⟨hs14, h⟩ := h
                  refine lv_lrem hx hb (kn_dec tX3_joined 32 rfl) hs14 ?_
                  exact kw_lret hx hb hr hlocks I () rfl h (kn_dec tX3_joined 33 rfl)
                · have h := h.2 c13
                  refine lv_lconst (v := 0) hx hb (kn_dec tX3_joined 28 rfl) (by decide) ?_
                  refine lv_goto (tgt := 99) hx hb (kn_dec tX3_joined 29 rfl) (by decide) ?_
                  exact kw_lret hx hb hr hlocks I () rfl h (kn_dec tX3_joined 33 rfl)
              · have h := h.2 c12
                rcases Classical.em (a0 = (-18 : Int32)) with c15 | c15
                · have h := h.1 c15
                  refine lv_tableIn (off := 71) (tgt := 72) hx hb (kn_dec tX3_joined 1 rfl) (by rw [c15]; decide) (by rw [c15]; decide) (by rw [c15]; rfl) (by decide) ?_
                  refine lv_lload_n hx hb (kn_dec tX3_joined 14 rfl) rfl (lv_at hl 2 rfl) ?_
                  refine lv_lconst (v := 0) hx hb (kn_dec tX3_joined 15 rfl) (by decide) ?_
                  refine W.lcmp hx hb (kn_dec tX3_joined 16 rfl) ?_
                  refine lv_if_ne (tgt := 82) hx hb (kn_dec tX3_joined 17 rfl) (by decide) (fun c16 => ?_) (fun c16 => ?_)
                  · have h := h.1 c16
                    refine lv_lload_n hx hb (kn_dec tX3_joined 20 rfl) rfl (lv_at hl 1 rfl) ?_
                    refine lv_lload_n hx hb (kn_dec tX3_joined 21 rfl) rfl (lv_at hl 2 rfl) ?_
                    obtain ⟨hs17, h⟩ := h
                    refine lv_ldiv hx hb (kn_dec tX3_joined 22 rfl) hs17 ?_
                    exact kw_lret hx hb hr hlocks I () rfl h (kn_dec tX3_joined 23 rfl)
                  · have h := h.2 c16
                    refine lv_lconst (v := 0) hx hb (kn_dec tX3_joined 18 rfl) (by decide) ?_
                    refine lv_goto (tgt := 85) hx hb (kn_dec tX3_joined 19 rfl) (by decide) ?_
                    exact kw_lret hx hb hr hlocks I () rfl h (kn_dec tX3_joined 23 rfl)
                · have h := h.2 c15
                  rcases Classical.em (a0 = (-17 : Int32)) with c18 | c18
                  · have h := h.1 c18
                    refine lv_tableIn (off := 67) (tgt := 68) hx hb (kn_dec tX3_joined 1 rfl) (by rw [c18]; decide) (by rw [c18]; decide) (by rw [c18]; rfl) (by decide) ?_
                    refine lv_lload_n hx hb (kn_dec tX3_joined 10 rfl) rfl (lv_at hl 1 rfl) ?_
                    refine lv_lload_n hx hb (kn_dec tX3_joined 11 rfl) rfl (lv_at hl 2 rfl) ?_
                    refine lv_lmul hx hb (kn_dec tX3_joined 12 rfl) ?_
                    exact kw_lret hx hb hr hlocks I () rfl h (kn_dec tX3_joined 13 rfl)
                  · have h := h.2 c18
                    rcases Classical.em (a0 = (-16 : Int32)) with c19 | c19
                    · have h := h.1 c19
                      refine lv_tableIn (off := 63) (tgt := 64) hx hb (kn_dec tX3_joined 1 rfl) (by rw [c19]; decide) (by rw [c19]; decide) (by rw [c19]; rfl) (by decide) ?_
                      refine lv_lload_n hx hb (kn_dec tX3_joined 6 rfl) rfl (lv_at hl 1 rfl) ?_
                      refine lv_lload_n hx hb (kn_dec tX3_joined 7 rfl) rfl (lv_at hl 2 rfl) ?_
                      refine lv_lsub hx hb (kn_dec tX3_joined 8 rfl) ?_
                      exact kw_lret hx hb hr hlocks I () rfl h (kn_dec tX3_joined 9 rfl)
                    · have h := h.2 c19
                      rcases Classical.em (a0 = (-15 : Int32)) with c20 | c20
                      · have h := h.1 c20
                        refine lv_tableIn (off := 59) (tgt := 60) hx hb (kn_dec tX3_joined 1 rfl) (by rw [c20]; decide) (by rw [c20]; decide) (by rw [c20]; rfl) (by decide) ?_
                        refine lv_lload_n hx hb (kn_dec tX3_joined 2 rfl) rfl (lv_at hl 1 rfl) ?_
                        refine lv_lload_n hx hb (kn_dec tX3_joined 3 rfl) rfl (lv_at hl 2 rfl) ?_
                        refine lv_ladd hx hb (kn_dec tX3_joined 4 rfl) ?_
                        exact kw_lret hx hb hr hlocks I () rfl h (kn_dec tX3_joined 5 rfl)
                      · have h := h.2 c20
                        refine lv_tableOut (tgt := 164) hx hb (kn_dec tX3_joined 1 rfl) (by have z0 := kn_nei (k := -25) c1 (by decide); have z1 := kn_nei (k := -24) c2 (by decide); have z2 := kn_nei (k := -23) c4 (by decide); have z3 := kn_nei (k := -22) c6 (by decide); have z4 := kn_nei (k := -21) c8 (by decide); have z5 := kn_nei (k := -20) c10 (by decide); have z6 := kn_nei (k := -19) c12 (by decide); have z7 := kn_nei (k := -18) c15 (by decide); have z8 := kn_nei (k := -17) c18 (by decide); have z9 := kn_nei (k := -16) c19 (by decide); have z10 := kn_nei (k := -15) c20 (by decide); omega) (by decide) ?_
                        refine lv_lload_n hx hb (kn_dec tX3_joined 78 rfl) rfl (lv_at hl 1 rfl) ?_
                        refine lv_lload_n hx hb (kn_dec tX3_joined 79 rfl) rfl (lv_at hl 2 rfl) ?_
                        refine lv_lor hx hb (kn_dec tX3_joined 80 rfl) ?_
                        exact kw_lret hx hb hr hlocks I () rfl h (kn_dec tX3_joined 81 rfl)

end
