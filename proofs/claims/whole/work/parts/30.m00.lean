section
variable {p : Program} {l : Launch} {e : Env} {s : State} {m : MethodId} {args : Array Value} {below : List Frame} {meth : Method} {c : Code} {D : va_G} {tc : Nat → ClassId} {Z : (Nat → Nat) × (Nat → Nat)} {w0 : List CH}

/-! X9_in -/
abbrev rmX9_in : Room := { frames := 0, cells := 0, slots := 0, locals := 0 }
def PX9_in  (a0 : Int64) (a1 : Int64) (a2 : Int64) (post : Int32 → Prop) : Prop := (((lg_cmp a0 a1) < ((0 : Int32)) → post ((0 : Int32))) ∧ (¬ (lg_cmp a0 a1) < ((0 : Int32)) → ((((0 : Int32)) < (lg_cmp a0 a2) → post ((0 : Int32))) ∧ (¬ ((0 : Int32)) < (lg_cmp a0 a2) → post ((1 : Int32))))))
set_option maxRecDepth 100000 in
set_option maxHeartbeats 1000000 in
theorem ctX9_in {l : Launch} {D : va_G} {tc : Nat → ClassId} {Z : (Nat → Nat) × (Nat → Nat)}   {a0 : Int64} {a1 : Int64} {a2 : Int64}    {post : Int32 → Prop} (h : PX9_in  a0 a1 a2 post) : CTi l D tc Z yX9_in (Cond.code yX9_in cX9_in 6 (some .boolean) :: kn_all) rmX9_in 0 0 [.long a0, .long a1, .long a2] [] (fun (u : Unit) => []) (fun (r : Int32) (u : Unit) => (r = 0 ∨ r = 1) ∧ post r) := by
  refine kn_ofi (cc := cX9_in) (nL := 6) (ret := (some .boolean)) (lv := [(0, .long a0), (2, .long a1), (4, .long a2)]) (by decide) (Nat.le_of_ble_eq_true rfl) rfl (fun p e s m below meth c ls X I hl _ => ?_)
  obtain ⟨S0, hr, hlocks, hK, hZ, hA⟩ := id X
  obtain ⟨hx, hb, hml, hown, hts⟩ := id S0
  unfold PX9_in at h
  refine lv_lload_n hx hb (kn_dec tX9_in 0 rfl) rfl (lv_at hl 0 rfl) ?_
  refine lv_lload_n hx hb (kn_dec tX9_in 1 rfl) rfl (lv_at hl 1 rfl) ?_
  refine W.lcmp hx hb (kn_dec tX9_in 2 rfl) ?_
  refine lv_if_lt (tgt := 17) hx hb (kn_dec tX9_in 3 rfl) (by decide) (fun c1 => ?_) (fun c1 => ?_)
  · have h := h.1 c1
    refine lv_iconst (v := (0)) hx hb (kn_dec tX9_in 10 rfl) (by decide) ?_
    exact kw_zret hx hb hr (kn_nz (Or.inl rfl)) hlocks I () rfl ⟨(Or.inl rfl), h⟩ (kn_dec tX9_in 11 rfl)
  · have h := h.2 c1
    refine lv_lload_n hx hb (kn_dec tX9_in 4 rfl) rfl (lv_at hl 0 rfl) ?_
    refine lv_lload hx hb (kn_dec tX9_in 5 rfl) (lv_at hl 2 rfl) ?_
    refine W.lcmp hx hb (kn_dec tX9_in 6 rfl) ?_
    refine lv_if_gt (tgt := 17) hx hb (kn_dec tX9_in 7 rfl) (by decide) (fun c2 => ?_) (fun c2 => ?_)
    · have h := h.1 c2
      refine lv_iconst (v := (0)) hx hb (kn_dec tX9_in 10 rfl) (by decide) ?_
      exact kw_zret hx hb hr (kn_nz (Or.inl rfl)) hlocks I () rfl ⟨(Or.inl rfl), h⟩ (kn_dec tX9_in 11 rfl)
    · have h := h.2 c2
      refine lv_iconst (v := (1)) hx hb (kn_dec tX9_in 8 rfl) (by decide) ?_
      refine lv_goto (tgt := 18) hx hb (kn_dec tX9_in 9 rfl) (by decide) ?_
      exact kw_zret hx hb hr (kn_nz (Or.inr rfl)) hlocks I () rfl ⟨(Or.inr rfl), h⟩ (kn_dec tX9_in 11 rfl)

/-! X9_bits -/
abbrev rmX9_bits : Room := { frames := 0, cells := 0, slots := 0, locals := 0 }
def PX9_bits_L4   (post : Int32 → Prop) : Nat → Int32 → Int32 → Int32 → Prop
  | 0, _, _, _ => False
  | n + 1, y0, y1, y2 => ((((16 : Int32)) ≤ y2 → post y1) ∧ (¬ ((16 : Int32)) ≤ y2 → (∀ x2 : Int32, x2 = (y1 + ((y0 >>> (y2 &&& 31)) &&& ((1 : Int32)))) → (∀ x3 : Int32, x3 = y2 + (1 : Int32) → PX9_bits_L4 post n y0 x2 x3))))
set_option maxRecDepth 100000 in
set_option maxHeartbeats 1000000 in
theorem wX9_bits_L4   {post : Int32 → Prop}  (X : kn_X p s m args meth c cX9_bits 3 (some .int) RX9 kn_all D tc Z (kn_A w0 s.heap.size))    : ∀ n : Nat, ∀ (H : Heap) (locs : List Loc) (ls : Array Slot) (y0 : Int32) (y1 : Int32) (y2 : Int32), kn_I D tc (kn_A w0 s.heap.size) s.heap [] H locs → lv_has ls 3 [(0, .int y0), (1, .int y1), (2, .int y2)] → PX9_bits_L4 post n y0 y1 y2 → W p l e rmX9_bits s m args below meth c H locs 0 0 (kn_Qi D tc w0 (fun (u : Unit) => []) (fun (r : Int32) (u : Unit) => post r) below args s 0 0) (F0 m 4 ls []) := by
  obtain ⟨S0, hr, hlocks, hK, hZ, hA⟩ := id X
  obtain ⟨hx, hb, hml, hown, hts⟩ := id S0
  intro n
  induction n with
  | zero =>
    intro H locs ls y0 y1 y2 I hl h
    unfold PX9_bits_L4 at h
    exact h.elim
  | succ n ih =>
    intro H locs ls y0 y1 y2 I hl h
    unfold PX9_bits_L4 at h
    refine lv_iload_n hx hb (kn_dec tX9_bits 4 rfl) rfl (lv_at hl 2 rfl) ?_
    refine lv_bipush (v := (16)) hx hb (kn_dec tX9_bits 5 rfl) (by decide) ?_
    refine lv_icmp_ge (tgt := 24) hx hb (kn_dec tX9_bits 6 rfl) (by decide) (fun c1 => ?_) (fun c1 => ?_)
    · have h := h.1 c1
      refine lv_iload_n hx hb (kn_dec tX9_bits 17 rfl) rfl (lv_at hl 1 rfl) ?_
      exact kw_iret hx hb hr hlocks I () rfl h (kn_dec tX9_bits 18 rfl)
    · have h := h.2 c1
      refine lv_iload_n hx hb (kn_dec tX9_bits 7 rfl) rfl (lv_at hl 1 rfl) ?_
      refine lv_iload_n hx hb (kn_dec tX9_bits 8 rfl) rfl (lv_at hl 0 rfl) ?_
      refine lv_iload_n hx hb (kn_dec tX9_bits 9 rfl) rfl (lv_at hl 2 rfl) ?_
      refine lv_ishr hx hb (kn_dec tX9_bits 10 rfl) ?_
      refine lv_iconst (v := (1)) hx hb (kn_dec tX9_bits 11 rfl) (by decide) ?_
      refine lv_iand hx hb (kn_dec tX9_bits 12 rfl) ?_
      refine lv_iadd hx hb (kn_dec tX9_bits 13 rfl) ?_
      refine lv_topi (fun x2 ex2 => ?_)
      have h := h x2 ex2
      refine lv_istore_n (lv' := [(1, .int _), (0, .int _), (2, .int _)]) hx hb (kn_dec tX9_bits 14 rfl) rfl hl (by decide) rfl (fun ls hl => ?_)
      refine kw_iinc (lvf := fun y => [(2, .int y), (1, .int _), (0, .int _)]) (nv := (1)) hx hb (kn_dec tX9_bits 15 rfl) hl (k := 2) rfl (by decide) (by decide) (fun _ => rfl) (fun x3 ex3 ls hl => ?_)
      have h := h x3 ex3
      refine lv_goto (tgt := 4) hx hb (kn_dec tX9_bits 16 rfl) (by decide) ?_
      exact ih _ _ _ _ _ _  I (lv_sub hl [2, 1, 0] rfl) h
def PX9_bits  (a0 : Int32) (post : Int32 → Prop) : Prop := (∃ n1 : Nat, PX9_bits_L4 post n1 a0 ((0 : Int32)) ((0 : Int32)))
set_option maxRecDepth 100000 in
set_option maxHeartbeats 1000000 in
theorem ctX9_bits {l : Launch} {D : va_G} {tc : Nat → ClassId} {Z : (Nat → Nat) × (Nat → Nat)}   {a0 : Int32}    {post : Int32 → Prop} (h : PX9_bits  a0 post) : CTi l D tc Z yX9_bits (Cond.code yX9_bits cX9_bits 3 (some .int) :: kn_all) rmX9_bits 0 0 [.int a0] [] (fun (u : Unit) => []) (fun (r : Int32) (u : Unit) => post r) := by
  refine kn_ofi (cc := cX9_bits) (nL := 3) (ret := (some .int)) (lv := [(0, .int a0)]) (by decide) (Nat.le_of_ble_eq_true rfl) rfl (fun p e s m below meth c ls X I hl _ => ?_)
  obtain ⟨S0, hr, hlocks, hK, hZ, hA⟩ := id X
  obtain ⟨hx, hb, hml, hown, hts⟩ := id S0
  unfold PX9_bits at h
  refine lv_iconst (v := (0)) hx hb (kn_dec tX9_bits 0 rfl) (by decide) ?_
  refine lv_istore_n (lv' := [(1, .int _), (0, .int _)]) hx hb (kn_dec tX9_bits 1 rfl) rfl hl (by decide) rfl (fun ls hl => ?_)
  refine lv_iconst (v := (0)) hx hb (kn_dec tX9_bits 2 rfl) (by decide) ?_
  refine lv_istore_n (lv' := [(2, .int _), (1, .int _), (0, .int _)]) hx hb (kn_dec tX9_bits 3 rfl) rfl hl (by decide) rfl (fun ls hl => ?_)
  obtain ⟨n1, h⟩ := h
  exact wX9_bits_L4 X n1 _ _ _ _ _ _  I (lv_sub hl [2, 1, 0] rfl) h

/-! X9_has -/
abbrev rmX9_has : Room := { frames := 0, cells := 0, slots := 0, locals := 0 }
def PX9_has  (a0 : Int32) (a1 : Int32) (post : Int32 → Prop) : Prop := ((¬ ((a0 >>> (a1 &&& 31)) &&& ((1 : Int32))) = ((1 : Int32)) → post ((0 : Int32))) ∧ (((a0 >>> (a1 &&& 31)) &&& ((1 : Int32))) = ((1 : Int32)) → post ((1 : Int32))))
set_option maxRecDepth 100000 in
set_option maxHeartbeats 1000000 in
theorem ctX9_has {l : Launch} {D : va_G} {tc : Nat → ClassId} {Z : (Nat → Nat) × (Nat → Nat)}   {a0 : Int32} {a1 : Int32}    {post : Int32 → Prop} (h : PX9_has  a0 a1 post) : CTi l D tc Z yX9_has (Cond.code yX9_has cX9_has 2 (some .boolean) :: kn_all) rmX9_has 0 0 [.int a0, .int a1] [] (fun (u : Unit) => []) (fun (r : Int32) (u : Unit) => (r = 0 ∨ r = 1) ∧ post r) := by
  refine kn_ofi (cc := cX9_has) (nL := 2) (ret := (some .boolean)) (lv := [(0, .int a0), (1, .int a1)]) (by decide) (Nat.le_of_ble_eq_true rfl) rfl (fun p e s m below meth c ls X I hl _ => ?_)
  obtain ⟨S0, hr, hlocks, hK, hZ, hA⟩ := id X
  obtain ⟨hx, hb, hml, hown, hts⟩ := id S0
  unfold PX9_has at h
  refine lv_iload_n hx hb (kn_dec tX9_has 0 rfl) rfl (lv_at hl 0 rfl) ?_
  refine lv_iload_n hx hb (kn_dec tX9_has 1 rfl) rfl (lv_at hl 1 rfl) ?_
  refine lv_ishr hx hb (kn_dec tX9_has 2 rfl) ?_
  refine lv_iconst (v := (1)) hx hb (kn_dec tX9_has 3 rfl) (by decide) ?_
  refine lv_iand hx hb (kn_dec tX9_has 4 rfl) ?_
  refine lv_iconst (v := (1)) hx hb (kn_dec tX9_has 5 rfl) (by decide) ?_
  refine lv_icmp_ne (tgt := 13) hx hb (kn_dec tX9_has 6 rfl) (by decide) (fun c1 => ?_) (fun c1 => ?_)
  · have h := h.1 c1
    refine lv_iconst (v := (0)) hx hb (kn_dec tX9_has 9 rfl) (by decide) ?_
    exact kw_zret hx hb hr (kn_nz (Or.inl rfl)) hlocks I () rfl ⟨(Or.inl rfl), h⟩ (kn_dec tX9_has 10 rfl)
  · have h := h.2 c1
    refine lv_iconst (v := (1)) hx hb (kn_dec tX9_has 7 rfl) (by decide) ?_
    refine lv_goto (tgt := 14) hx hb (kn_dec tX9_has 8 rfl) (by decide) ?_
    exact kw_zret hx hb hr (kn_nz (Or.inr rfl)) hlocks I () rfl ⟨(Or.inr rfl), h⟩ (kn_dec tX9_has 10 rfl)

/-! X9_truth -/
abbrev rmX9_truth : Room := { frames := 0, cells := 0, slots := 0, locals := 0 }
def PX9_truth  (a0 : Int32) (post : Int64 → Prop) : Prop := ((a0 = ((0 : Int32)) → post ((0 : Int64))) ∧ (¬ a0 = ((0 : Int32)) → post ((1 : Int64))))
set_option maxRecDepth 100000 in
set_option maxHeartbeats 1000000 in
theorem ctX9_truth {l : Launch} {D : va_G} {tc : Nat → ClassId} {Z : (Nat → Nat) × (Nat → Nat)}   {a0 : Int32}   (hz_a0 : a0 = 0 ∨ a0 = 1) {post : Int64 → Prop} (h : PX9_truth  a0 post) : CTl l D tc Z yX9_truth (Cond.code yX9_truth cX9_truth 1 (some .long) :: kn_all) rmX9_truth 0 0 [.int a0] [] (fun (u : Unit) => []) (fun (r : Int64) (u : Unit) => post r) := by
  refine kn_ofl (cc := cX9_truth) (nL := 1) (ret := (some .long)) (lv := [(0, .int a0)]) (by decide) (Nat.le_of_ble_eq_true rfl) rfl (fun p e s m below meth c ls X I hl _ => ?_)
  obtain ⟨S0, hr, hlocks, hK, hZ, hA⟩ := id X
  obtain ⟨hx, hb, hml, hown, hts⟩ := id S0
  unfold PX9_truth at h
  refine lv_iload_n hx hb (kn_dec tX9_truth 0 rfl) rfl (lv_at hl 0 rfl) ?_
  refine lv_if_eq (tgt := 8) hx hb (kn_dec tX9_truth 1 rfl) (by decide) (fun c1 => ?_) (fun c1 => ?_)
  · have h := h.1 c1
    refine lv_lconst (v := 0) hx hb (kn_dec tX9_truth 4 rfl) (by decide) ?_
    exact kw_lret hx hb hr hlocks I () rfl h (kn_dec tX9_truth 5 rfl)
  · have h := h.2 c1
    refine lv_lconst (v := 1) hx hb (kn_dec tX9_truth 2 rfl) (by decide) ?_
    refine lv_goto (tgt := 9) hx hb (kn_dec tX9_truth 3 rfl) (by decide) ?_
    exact kw_lret hx hb hr hlocks I () rfl h (kn_dec tX9_truth 5 rfl)

/-! X9_both -/
abbrev rmX9_both : Room := { frames := 1, cells := 0, slots := 0, locals := 20 }
def PX9_both_b123   (post : Int64 → Prop) (t0 : Int32) : Prop := (PX9_truth t0 (fun r1 => post r1))
set_option maxRecDepth 100000 in
set_option maxHeartbeats 1000000 in
theorem wX9_both_b123   {post : Int64 → Prop}  (X : kn_X p s m args meth c cX9_both 5 (some .long) RX9 kn_all D tc Z (kn_A w0 s.heap.size))    : ∀ (H : Heap) (locs : List Loc) (ls : Array Slot) (t0 : Int32), (hz_t0 : t0 = 0 ∨ t0 = 1) → kn_I D tc (kn_A w0 s.heap.size) s.heap [] H locs → lv_has ls 5 [] → PX9_both_b123 post t0 → W p l e rmX9_both s m args below meth c H locs 0 0 (kn_Ql D tc w0 (fun (u : Unit) => []) (fun (r : Int64) (u : Unit) => post r) below args s 0 0) (F0 m 123 ls [.int t0]) := by
  obtain ⟨S0, hr, hlocks, hK, hZ, hA⟩ := id X
  obtain ⟨hx, hb, hml, hown, hts⟩ := id S0
  intro H locs ls t0 hz_t0 I hl h
  unfold PX9_both_b123 at h
  refine kw_calll (wc := []) (wr := []) I hA [] [] rfl rfl (by decide) (by decide) (kn_runS (As := [.int _]) S0 hK hZ hA I ((ctX9_truth hz_t0 h).met _) (kn_cwS 1 hts q6_196 q6_197 q1_10 q6_198 rfl rfl (by decide +kernel) ⟨(Nat.le_of_ble_eq_true rfl), (Nat.le_of_ble_eq_true rfl)⟩) [] rfl (by decide) rfl hl.1 rfl (Nat.le_of_ble_eq_true rfl) (kn_dec tX9_both 41 rfl) ⟨(Nat.le_of_ble_eq_true rfl), (Nat.le_of_ble_eq_true rfl)⟩) (fun r1 u2 H locs h I => ?_)
  have I : kn_I D tc (kn_A w0 s.heap.size) s.heap [] _ _ := I
  exact kw_lret hx hb hr hlocks I () rfl h (kn_dec tX9_both 42 rfl)
def PX9_both_b138   (post : Int64 → Prop) (t0 : Int32) : Prop := (PX9_truth t0 (fun r1 => post r1))
set_option maxRecDepth 100000 in
set_option maxHeartbeats 1000000 in
theorem wX9_both_b138   {post : Int64 → Prop}  (X : kn_X p s m args meth c cX9_both 5 (some .long) RX9 kn_all D tc Z (kn_A w0 s.heap.size))    : ∀ (H : Heap) (locs : List Loc) (ls : Array Slot) (t0 : Int32), (hz_t0 : t0 = 0 ∨ t0 = 1) → kn_I D tc (kn_A w0 s.heap.size) s.heap [] H locs → lv_has ls 5 [] → PX9_both_b138 post t0 → W p l e rmX9_both s m args below meth c H locs 0 0 (kn_Ql D tc w0 (fun (u : Unit) => []) (fun (r : Int64) (u : Unit) => post r) below args s 0 0) (F0 m 138 ls [.int t0]) := by
  obtain ⟨S0, hr, hlocks, hK, hZ, hA⟩ := id X
  obtain ⟨hx, hb, hml, hown, hts⟩ := id S0
  intro H locs ls t0 hz_t0 I hl h
  unfold PX9_both_b138 at h
  refine kw_calll (wc := []) (wr := []) I hA [] [] rfl rfl (by decide) (by decide) (kn_runS (As := [.int _]) S0 hK hZ hA I ((ctX9_truth hz_t0 h).met _) (kn_cwS 1 hts q6_196 q6_197 q1_10 q6_198 rfl rfl (by decide +kernel) ⟨(Nat.le_of_ble_eq_true rfl), (Nat.le_of_ble_eq_true rfl)⟩) [] rfl (by decide) rfl hl.1 rfl (Nat.le_of_ble_eq_true rfl) (kn_dec tX9_both 50 rfl) ⟨(Nat.le_of_ble_eq_true rfl), (Nat.le_of_ble_eq_true rfl)⟩) (fun r1 u2 H locs h I => ?_)
  have I : kn_I D tc (kn_A w0 s.heap.size) s.heap [] _ _ := I
  exact kw_lret hx hb hr hlocks I () rfl h (kn_dec tX9_both 51 rfl)
def PX9_both_b153   (post : Int64 → Prop) (t0 : Int32) : Prop := (PX9_truth t0 (fun r1 => post r1))
set_option maxRecDepth 100000 in
set_option maxHeartbeats 1000000 in
theorem wX9_both_b153   {post : Int64 → Prop}  (X : kn_X p s m args meth c cX9_both 5 (some .long) RX9 kn_all D tc Z (kn_A w0 s.heap.size))    : ∀ (H : Heap) (locs : List Loc) (ls : Array Slot) (t0 : Int32), (hz_t0 : t0 = 0 ∨ t0 = 1) → kn_I D tc (kn_A w0 s.heap.size) s.heap [] H locs → lv_has ls 5 [] → PX9_both_b153 post t0 → W p l e rmX9_both s m args below meth c H locs 0 0 (kn_Ql D tc w0 (fun (u : Unit) => []) (fun (r : Int64) (u : Unit) => post r) below args s 0 0) (F0 m 153 ls [.int t0]) := by
  obtain ⟨S0, hr, hlocks, hK, hZ, hA⟩ := id X
  obtain ⟨hx, hb, hml, hown, hts⟩ := id S0
  intro H locs ls t0 hz_t0 I hl h
  unfold PX9_both_b153 at h
  refine kw_calll (wc := []) (wr := []) I hA [] [] rfl rfl (by decide) (by decide) (kn_runS (As := [.int _]) S0 hK hZ hA I ((ctX9_truth hz_t0 h).met _) (kn_cwS 1 hts q6_196 q6_197 q1_10 q6_198 rfl rfl (by decide +kernel) ⟨(Nat.le_of_ble_eq_true rfl), (Nat.le_of_ble_eq_true rfl)⟩) [] rfl (by decide) rfl hl.1 rfl (Nat.le_of_ble_eq_true rfl) (kn_dec tX9_both 59 rfl) ⟨(Nat.le_of_ble_eq_true rfl), (Nat.le_of_ble_eq_true rfl)⟩) (fun r1 u2 H locs h I => ?_)
  have I : kn_I D tc (kn_A w0 s.heap.size) s.heap [] _ _ := I
  exact kw_lret hx hb hr hlocks I () rfl h (kn_dec tX9_both 60 rfl)
def PX9_both_b168   (post : Int64 → Prop) (t0 : Int32) : Prop := (PX9_truth t0 (fun r1 => post r1))
set_option maxRecDepth 100000 in
set_option maxHeartbeats 1000000 in
theorem wX9_both_b168   {post : Int64 → Prop}  (X : kn_X p s m args meth c cX9_both 5 (some .long) RX9 kn_all D tc Z (kn_A w0 s.heap.size))    : ∀ (H : Heap) (locs : List Loc) (ls : Array Slot) (t0 : Int32), (hz_t0 : t0 = 0 ∨ t0 = 1) → kn_I D tc (kn_A w0 s.heap.size) s.heap [] H locs → lv_has ls 5 [] → PX9_both_b168 post t0 → W p l e rmX9_both s m args below meth c H locs 0 0 (kn_Ql D tc w0 (fun (u : Unit) => []) (fun (r : Int64) (u : Unit) => post r) below args s 0 0) (F0 m 168 ls [.int t0]) := by
  obtain ⟨S0, hr, hlocks, hK, hZ, hA⟩ := id X
  obtain ⟨hx, hb, hml, hown, hts⟩ := id S0
  intro H locs ls t0 hz_t0 I hl h
  unfold PX9_both_b168 at h
  refine kw_calll (wc := []) (wr := []) I hA [] [] rfl rfl (by decide) (by decide) (kn_runS (As := [.int _]) S0 hK hZ hA I ((ctX9_truth hz_t0 h).met _) (kn_cwS 1 hts q6_196 q6_197 q1_10 q6_198 rfl rfl (by decide +kernel) ⟨(Nat.le_of_ble_eq_true rfl), (Nat.le_of_ble_eq_true rfl)⟩) [] rfl (by decide) rfl hl.1 rfl (Nat.le_of_ble_eq_true rfl) (kn_dec tX9_both 68 rfl) ⟨(Nat.le_of_ble_eq_true rfl), (Nat.le_of_ble_eq_true rfl)⟩) (fun r1 u2 H locs h I => ?_)
  have I : kn_I D tc (kn_A w0 s.heap.size) s.heap [] _ _ := I
  exact kw_lret hx hb hr hlocks I () rfl h (kn_dec tX9_both 69 rfl)
def PX9_both_b183   (post : Int64 → Prop) (t0 : Int32) : Prop := (PX9_truth t0 (fun r1 => post r1))
set_option maxRecDepth 100000 in
set_option maxHeartbeats 1000000 in
theorem wX9_both_b183   {post : Int64 → Prop}  (X : kn_X p s m args meth c cX9_both 5 (some .long) RX9 kn_all D tc Z (kn_A w0 s.heap.size))    : ∀ (H : Heap) (locs : List Loc) (ls : Array Slot) (t0 : Int32), (hz_t0 : t0 = 0 ∨ t0 = 1) → kn_I D tc (kn_A w0 s.heap.size) s.heap [] H locs → lv_has ls 5 [] → PX9_both_b183 post t0 → W p l e rmX9_both s m args below meth c H locs 0 0 (kn_Ql D tc w0 (fun (u : Unit) => []) (fun (r : Int64) (u : Unit) => post r) below args s 0 0) (F0 m 183 ls [.int t0]) := by
  obtain ⟨S0, hr, hlocks, hK, hZ, hA⟩ := id X
  obtain ⟨hx, hb, hml, hown, hts⟩ := id S0
  intro H locs ls t0 hz_t0 I hl h
  unfold PX9_both_b183 at h
  refine kw_calll (wc := []) (wr := []) I hA [] [] rfl rfl (by decide) (by decide) (kn_runS (As := [.int _]) S0 hK hZ hA I ((ctX9_truth hz_t0 h).met _) (kn_cwS 1 hts q6_196 q6_197 q1_10 q6_198 rfl rfl (by decide +kernel) ⟨(Nat.le_of_ble_eq_true rfl), (Nat.le_of_ble_eq_true rfl)⟩) [] rfl (by decide) rfl hl.1 rfl (Nat.le_of_ble_eq_true rfl) (kn_dec tX9_both 77 rfl) ⟨(Nat.le_of_ble_eq_true rfl), (Nat.le_of_ble_eq_true rfl)⟩) (fun r1 u2 H locs h I => ?_)
  have I : kn_I D tc (kn_A w0 s.heap.size) s.heap [] _ _ := I
  exact kw_lret hx hb hr hlocks I () rfl h (kn_dec tX9_both 78 rfl)
def PX9_both  (a0 : Int32) (a1 : Int64) (a2 : Int64) (post : Int64 → Prop) : Prop := ((a0 = (2 : Int32) → post (a1 + a2)) ∧ (¬ a0 = (2 : Int32) → ((a0 = (3 : Int32) → post (a1 - a2)) ∧ (¬ a0 = (3 : Int32) → ((a0 = (4 : Int32) → ((((0 : Int32)) ≤ (lg_cmp a1 a2) → PX9_both_b123 post ((0 : Int32))) ∧ (¬ ((0 : Int32)) ≤ (lg_cmp a1 a2) → PX9_both_b123 post ((1 : Int32))))) ∧ (¬ a0 = (4 : Int32) → ((a0 = (5 : Int32) → ((((0 : Int32)) < (lg_cmp a1 a2) → PX9_both_b138 post ((0 : Int32))) ∧ (¬ ((0 : Int32)) < (lg_cmp a1 a2) → PX9_both_b138 post ((1 : Int32))))) ∧ (¬ a0 = (5 : Int32) → ((a0 = (6 : Int32) → ((¬ (lg_cmp a1 a2) = ((0 : Int32)) → PX9_both_b153 post ((0 : Int32))) ∧ ((lg_cmp a1 a2) = ((0 : Int32)) → PX9_both_b153 post ((1 : Int32))))) ∧ (¬ a0 = (6 : Int32) → ((a0 = (7 : Int32) → (((lg_cmp a1 a2) < ((0 : Int32)) → PX9_both_b168 post ((0 : Int32))) ∧ (¬ (lg_cmp a1 a2) < ((0 : Int32)) → PX9_both_b168 post ((1 : Int32))))) ∧ (¬ a0 = (7 : Int32) → ((a0 = (8 : Int32) → (((lg_cmp a1 a2) ≤ ((0 : Int32)) → PX9_both_b183 post ((0 : Int32))) ∧ (¬ (lg_cmp a1 a2) ≤ ((0 : Int32)) → PX9_both_b183 post ((1 : Int32))))) ∧ (¬ a0 = (8 : Int32) → ((a0 = (9 : Int32) → post (a1 ||| a2)) ∧ (¬ a0 = (9 : Int32) → ((a0 = (10 : Int32) → post (a1 &&& a2)) ∧ (¬ a0 = (10 : Int32) → ((a0 = (11 : Int32) → post (a1 ||| a2)) ∧ (¬ a0 = (11 : Int32) → ((a0 = (12 : Int32) → post (a1 ||| a2)) ∧ (¬ a0 = (12 : Int32) → ((a0 = (13 : Int32) → post (a1 * a2)) ∧ (¬ a0 = (13 : Int32) → ((a0 = (14 : Int32) → ((¬ (lg_cmp a2 ((0 : Int64))) = ((0 : Int32)) → (¬ a2 = 0 ∧ post (a1 / a2))) ∧ ((lg_cmp a2 ((0 : Int64))) = ((0 : Int32)) → post ((0 : Int64))))) ∧ (¬ a0 = (14 : Int32) → ((a0 = (15 : Int32) → ((¬ (lg_cmp a2 ((0 : Int64))) = ((0 : Int32)) → (¬ a2 = 0 ∧ post (a1 - a1 / a2 * a2))) ∧ ((lg_cmp a2 ((0 : Int64))) = ((0 : Int32)) → post ((0 : Int64))))) ∧ (¬ a0 = (15 : Int32) → post (a1 ||| a2)))))))))))))))))))))))))))))
set_option maxRecDepth 100000 in
set_option maxHeartbeats 1000000 in
theorem ctX9_both {l : Launch} {D : va_G} {tc : Nat → ClassId} {Z : (Nat → Nat) × (Nat → Nat)}   {a0 : Int32} {a1 : Int64} {a2 : Int64}    {post : Int64 → Prop} (h : PX9_both  a0 a1 a2 post) : CTl l D tc Z yX9_both (Cond.code yX9_both cX9_both 5 (some .long) :: kn_all) rmX9_both 0 0 [.int a0, .long a1, .long a2] [] (fun (u : Unit) => []) (fun (r : Int64) (u : Unit) => post r) := by
  refine kn_ofl (cc := cX9_both) (nL := 5) (ret := (some .long)) (lv := [(0, .int a0), (1, .long a1), (3, .long a2)]) (by decide) (Nat.le_of_ble_eq_true rfl) rfl (fun p e s m below meth c ls X I hl _ => ?_)
  obtain ⟨S0, hr, hlocks, hK, hZ, hA⟩ := id X
  obtain ⟨hx, hb, hml, hown, hts⟩ := id S0
  unfold PX9_both at h
  refine lv_iload_n hx hb (kn_dec tX9_both 0 rfl) rfl (lv_at hl 0 rfl) ?_
  rcases Classical.em (a0 = (2 : Int32)) with c1 | c1
  · have h := h.1 c1
    refine lv_tableIn (off := 71) (tgt := 72) hx hb (kn_dec tX9_both 1 rfl) (by rw [c1]; decide) (by rw [c1]; decide) (by rw [c1]; rfl) (by decide) ?_
    refine lv_lload_n hx hb (kn_dec tX9_both 2 rfl) rfl (lv_at hl 1 rfl) ?_
    refine lv_lload_n hx hb (kn_dec tX9_both 3 rfl) rfl (lv_at hl 2 rfl) ?_
    refine lv_ladd hx hb (kn_dec tX9_both 4 rfl) ?_
    exact kw_lret hx hb hr hlocks I () rfl h (kn_dec tX9_both 5 rfl)
  · have h := h.2 c1
    rcases Classical.em (a0 = (3 : Int32)) with c2 | c2
    · have h := h.1 c2
      refine lv_tableIn (off := 75) (tgt := 76) hx hb (kn_dec tX9_both 1 rfl) (by rw [c2]; decide) (by rw [c2]; decide) (by rw [c2]; rfl) (by decide) ?_
      refine lv_lload_n hx hb (kn_dec tX9_both 6 rfl) rfl (lv_at hl 1 rfl) ?_
      refine lv_lload_n hx hb (kn_dec tX9_both 7 rfl) rfl (lv_at hl 2 rfl) ?_
      refine lv_lsub hx hb (kn_dec tX9_both 8 rfl) ?_
      exact kw_lret hx hb hr hlocks I () rfl h (kn_dec tX9_both 9 rfl)
    · have h := h.2 c2
      rcases Classical.em (a0 = (4 : Int32)) with c3 | c3
      · have h := h.1 c3
        refine lv_tableIn (off := 111) (tgt := 112) hx hb (kn_dec tX9_both 1 rfl) (by rw [c3]; decide) (by rw [c3]; decide) (by rw [c3]; rfl) (by decide) ?_
        refine lv_lload_n hx hb (kn_dec tX9_both 34 rfl) rfl (lv_at hl 1 rfl) ?_
        refine lv_lload_n hx hb (kn_dec tX9_both 35 rfl) rfl (lv_at hl 2 rfl) ?_
        refine W.lcmp hx hb (kn_dec tX9_both 36 rfl) ?_
        refine lv_if_ge (tgt := 122) hx hb (kn_dec tX9_both 37 rfl) (by decide) (fun c4 => ?_) (fun c4 => ?_)
        · have h := h.1 c4
          refine lv_iconst (v := (0)) hx hb (kn_dec tX9_both 40 rfl) (by decide) ?_
          exact wX9_both_b123 X _ _ _ _ (Or.inl rfl) I (lv_sub hl [] rfl) h
        · have h := h.2 c4
          refine lv_iconst (v := (1)) hx hb (kn_dec tX9_both 38 rfl) (by decide) ?_
          refine lv_goto (tgt := 123) hx hb (kn_dec tX9_both 39 rfl) (by decide) ?_
          exact wX9_both_b123 X _ _ _ _ (Or.inr rfl) I (lv_sub hl [] rfl) h
      · have h := h.2 c3
        rcases Classical.em (a0 = (5 : Int32)) with c5 | c5
        · have h := h.1 c5
          refine lv_tableIn (off := 126) (tgt := 127) hx hb (kn_dec tX9_both 1 rfl) (by rw [c5]; decide) (by rw [c5]; decide) (by rw [c5]; rfl) (by decide) ?_
          refine lv_lload_n hx hb (kn_dec tX9_both 43 rfl) rfl (lv_at hl 1 rfl) ?_
          refine lv_lload_n hx hb (kn_dec tX9_both 44 rfl) rfl (lv_at hl 2 rfl) ?_
          refine W.lcmp hx hb (kn_dec tX9_both 45 rfl) ?_
          refine lv_if_gt (tgt := 137) hx hb (kn_dec tX9_both 46 rfl) (by decide) (fun c6 => ?_) (fun c6 => ?_)
          · have h := h.1 c6
            refine lv_iconst (v := (0)) hx hb (kn_dec tX9_both 49 rfl) (by decide) ?_
            exact wX9_both_b138 X _ _ _ _ (Or.inl rfl) I (lv_sub hl [] rfl) h
          · have h := h.2 c6
            refine lv_iconst (v := (1)) hx hb (kn_dec tX9_both 47 rfl) (by decide) ?_
            refine lv_goto (tgt := 138) hx hb (kn_dec tX9_both 48 rfl) (by decide) ?_
            exact wX9_both_b138 X _ _ _ _ (Or.inr rfl) I (lv_sub hl [] rfl) h
        · have h := h.2 c5
          rcases Classical.em (a0 = (6 : Int32)) with c7 | c7
          · have h := h.1 c7
            refine lv_tableIn (off := 141) (tgt := 142) hx hb (kn_dec tX9_both 1 rfl) (by rw [c7]; decide) (by rw [c7]; decide) (by rw [c7]; rfl) (by decide) ?_
            refine lv_lload_n hx hb (kn_dec tX9_both 52 rfl) rfl (lv_at hl 1 rfl) ?_
            refine lv_lload_n hx hb (kn_dec tX9_both 53 rfl) rfl (lv_at hl 2 rfl) ?_
            refine W.lcmp hx hb (kn_dec tX9_both 54 rfl) ?_
            refine lv_if_ne (tgt := 152) hx hb (kn_dec tX9_both 55 rfl) (by decide) (fun c8 => ?_) (fun c8 => ?_)
            · have h := h.1 c8
              refine lv_iconst (v := (0)) hx hb (kn_dec tX9_both 58 rfl) (by decide) ?_
              exact wX9_both_b153 X _ _ _ _ (Or.inl rfl) I (lv_sub hl [] rfl) h
            · have h := h.2 c8
              refine lv_iconst (v := (1)) hx hb (kn_dec tX9_both 56 rfl) (by decide) ?_
              refine lv_goto (tgt := 153) hx hb (kn_dec tX9_both 57 rfl) (by decide) ?_
              exact wX9_both_b153 X _ _ _ _ (Or.inr rfl) I (lv_sub hl [] rfl) h
          · have h := h.2 c7
            rcases Classical.em (a0 = (7 : Int32)) with c9 | c9
            · have h := h.1 c9
              refine lv_tableIn (off := 156) (tgt := 157) hx hb (kn_dec tX9_both 1 rfl) (by rw [c9]; decide) (by rw [c9]; decide) (by rw [c9]; rfl) (by decide) ?_
              refine lv_lload_n hx hb (kn_dec tX9_both 61 rfl) rfl (lv_at hl 1 rfl) ?_
              refine lv_lload_n hx hb (kn_dec tX9_both 62 rfl) rfl (lv_at hl 2 rfl) ?_
              refine W.lcmp hx hb (kn_dec tX9_both 63 rfl) ?_
              refine lv_if_lt (tgt := 167) hx hb (kn_dec tX9_both 64 rfl) (by decide) (fun c10 => ?_) (fun c10 => ?_)
              · have h := h.1 c10
                refine lv_iconst (v := (0)) hx hb (kn_dec tX9_both 67 rfl) (by decide) ?_
                exact wX9_both_b168 X _ _ _ _ (Or.inl rfl) I (lv_sub hl [] rfl) h
              · have h := h.2 c10
                refine lv_iconst (v := (1)) hx hb (kn_dec tX9_both 65 rfl) (by decide) ?_
                refine lv_goto (tgt := 168) hx hb (kn_dec tX9_both 66 rfl) (by decide) ?_
                exact wX9_both_b168 X _ _ _ _ (Or.inr rfl) I (lv_sub hl [] rfl) h
            · have h := h.2 c9
              rcases Classical.em (a0 = (8 : Int32)) with c11 | c11
              · have h := h.1 c11
                refine lv_tableIn (off := 171) (tgt := 172) hx hb (kn_dec tX9_both 1 rfl) (by rw [c11]; decide) (by rw [c11]; decide) (by rw [c11]; rfl) (by decide) ?_
                refine lv_lload_n hx hb (kn_dec tX9_both 70 rfl) rfl (lv_at hl 1 rfl) ?_
                refine lv_lload_n hx hb (kn_dec tX9_both 71 rfl) rfl (lv_at hl 2 rfl) ?_
                refine W.lcmp hx hb (kn_dec tX9_both 72 rfl) ?_
                refine lv_if_le (tgt := 182) hx hb (kn_dec tX9_both 73 rfl) (by decide) (fun c12 => ?_) (fun c12 => ?_)
                · have h := h.1 c12
                  refine lv_iconst (v := (0)) hx hb (kn_dec tX9_both 76 rfl) (by decide) ?_
                  exact wX9_both_b183 X _ _ _ _ (Or.inl rfl) I (lv_sub hl [] rfl) h
                · have h := h.2 c12
                  refine lv_iconst (v := (1)) hx hb (kn_dec tX9_both 74 rfl) (by decide) ?_
                  refine lv_goto (tgt := 183) hx hb (kn_dec tX9_both 75 rfl) (by decide) ?_
                  exact wX9_both_b183 X _ _ _ _ (Or.inr rfl) I (lv_sub hl [] rfl) h
              · have h := h.2 c11
                rcases Classical.em (a0 = (9 : Int32)) with c13 | c13
                · have h := h.1 c13
                  refine lv_tableIn (off := 190) (tgt := 191) hx hb (kn_dec tX9_both 1 rfl) (by rw [c13]; decide) (by rw [c13]; decide) (by rw [c13]; rfl) (by decide) ?_
                  refine lv_lload_n hx hb (kn_dec tX9_both 83 rfl) rfl (lv_at hl 1 rfl) ?_
                  refine lv_lload_n hx hb (kn_dec tX9_both 84 rfl) rfl (lv_at hl 2 rfl) ?_
                  refine lv_lor hx hb (kn_dec tX9_both 85 rfl) ?_
                  exact kw_lret hx hb hr hlocks I () rfl h (kn_dec tX9_both 86 rfl)
                · have h := h.2 c13
                  rcases Classical.em (a0 = (10 : Int32)) with c14 | c14
                  · have h := h.1 c14
                    refine lv_tableIn (off := 186) (tgt := 187) hx hb (kn_dec tX9_both 1 rfl) (by rw [c14]; decide) (by rw [c14]; decide) (by rw [c14]; rfl) (by decide) ?_
                    refine lv_lload_n hx hb (kn_dec tX9_both 79 rfl) rfl (lv_at hl 1 rfl) ?_
                    refine lv_lload_n hx hb (kn_dec tX9_both 80 rfl) rfl (lv_at hl 2 rfl) ?_
                    refine lv_land hx hb (kn_dec tX9_both 81 rfl) ?_
                    exact kw_lret hx hb hr hlocks I () rfl h (kn_dec tX9_both 82 rfl)
                  · have h := h.2 c14
                    rcases Classical.em (a0 = (11 : Int32)) with c15 | c15
                    · have h := h.1 c15
                      refine lv_tableIn (off := 190) (tgt := 191) hx hb (kn_dec tX9_both 1 rfl) (by rw [c15]; decide) (by rw [c15]; decide) (by rw [c15]; rfl) (by decide) ?_
                      refine lv_lload_n hx hb (kn_dec tX9_both 83 rfl) rfl (lv_at hl 1 rfl) ?_
                      refine lv_lload_n hx hb (kn_dec tX9_both 84 rfl) rfl (lv_at hl 2 rfl) ?_
                      refine lv_lor hx hb (kn_dec tX9_both 85 rfl) ?_
                      exact kw_lret hx hb hr hlocks I () rfl h (kn_dec tX9_both 86 rfl)
                    · have h := h.2 c15
                      rcases Classical.em (a0 = (12 : Int32)) with c16 | c16
                      · have h := h.1 c16
                        refine lv_tableIn (off := 190) (tgt := 191) hx hb (kn_dec tX9_both 1 rfl) (by rw [c16]; decide) (by rw [c16]; decide) (by rw [c16]; rfl) (by decide) ?_
                        refine lv_lload_n hx hb (kn_dec tX9_both 83 rfl) rfl (lv_at hl 1 rfl) ?_
                        refine lv_lload_n hx hb (kn_dec tX9_both 84 rfl) rfl (lv_at hl 2 rfl) ?_
                        refine lv_lor hx hb (kn_dec tX9_both 85 rfl) ?_
                        exact kw_lret hx hb hr hlocks I () rfl h (kn_dec tX9_both 86 rfl)
                      · have h := h.2 c16
                        rcases Classical.em (a0 = (13 : Int32)) with c17 | c17
                        · have h := h.1 c17
                          refine lv_tableIn (off := 79) (tgt := 80) hx hb (kn_dec tX9_both 1 rfl) (by rw [c17]; decide) (by rw [c17]; decide) (by rw [c17]; rfl) (by decide) ?_
                          refine lv_lload_n hx hb (kn_dec tX9_both 10 rfl) rfl (lv_at hl 1 rfl) ?_
                          refine lv_lload_n hx hb (kn_dec tX9_both 11 rfl) rfl (lv_at hl 2 rfl) ?_
                          refine lv_lmul hx hb (kn_dec tX9_both 12 rfl) ?_
                          exact kw_lret hx hb hr hlocks I () rfl h (kn_dec tX9_both 13 rfl)
                        · have h := h.2 c17
                          rcases Classical.em (a0 = (14 : Int32)) with c18 | c18
                          · have h := h.1 c18
                            refine lv_tableIn (off := 83) (tgt := 84) hx hb (kn_dec tX9_both 1 rfl) (by rw [c18]; decide) (by rw [c18]; decide) (by rw [c18]; rfl) (by decide) ?_
                            refine lv_lload_n hx hb (kn_dec tX9_both 14 rfl) rfl (lv_at hl 2 rfl) ?_
                            refine lv_lconst (v := 0) hx hb (kn_dec tX9_both 15 rfl) (by decide) ?_
                            refine W.lcmp hx hb (kn_dec tX9_both 16 rfl) ?_
                            refine lv_if_ne (tgt := 94) hx hb (kn_dec tX9_both 17 rfl) (by decide) (fun c19 => ?_) (fun c19 => ?_)
                            · have h := h.1 c19
                              refine lv_lload_n hx hb (kn_dec tX9_both 20 rfl) rfl (lv_at hl 1 rfl) ?_
                              refine lv_lload_n hx hb (kn_dec tX9_both 21 rfl) rfl (lv_at hl 2 rfl) ?_
                              obtain ⟨hs20, h⟩ := h
                              refine lv_ldiv hx hb (kn_dec tX9_both 22 rfl) hs20 ?_
                              exact kw_lret hx hb hr hlocks I () rfl h (kn_dec tX9_both 23 rfl)
                            · have h := h.2 c19
                              refine lv_lconst (v := 0) hx hb (kn_dec tX9_both 18 rfl) (by decide) ?_
                              refine lv_goto (tgt := 97) hx hb (kn_dec tX9_both 19 rfl) (by decide) ?_
                              exact kw_lret hx hb hr hlocks I () rfl h (kn_dec tX9_both 23 rfl)
                          · have h := h.2 c18
                            rcases Classical.em (a0 = (15 : Int32)) with c21 | c21
                            · have h := h.1 c21
                              refine lv_tableIn (off := 97) (tgt := 98) hx hb (kn_dec tX9_both 1 rfl) (by rw [c21]; decide) (by rw [c21]; decide) (by rw [c21]; rfl) (by decide) ?_
                              refine lv_lload_n hx hb (kn_dec tX9_both 24 rfl) rfl (lv_at hl 2 rfl) ?_
                              refine lv_lconst (v := 0) hx hb (kn_dec tX9_both 25 rfl) (by decide) ?_
                              refine W.lcmp hx hb (kn_dec tX9_both 26 rfl) ?_
                              refine lv_if_ne (tgt := 108) hx hb (kn_dec tX9_both 27 rfl) (by decide) (fun c22 => ?_) (fun c22 => ?_)
                              · have h := h.1 c22
                                refine lv_lload_n hx hb (kn_dec tX9_both 30 rfl) rfl (lv_at hl 1 rfl) ?_
                                refine lv_lload_n hx hb (kn_dec tX9_both 31 rfl) rfl (lv_at hl 2 rfl) ?_
                                obtain ⟨hs23, h⟩ := h
                                refine lv_lrem hx hb (kn_dec tX9_both 32 rfl) hs23 ?_
                                exact kw_lret hx hb hr hlocks I () rfl h (kn_dec tX9_both 33 rfl)
                              · have h := h.2 c22
                                refine lv_lconst (v := 0) hx hb (kn_dec tX9_both 28 rfl) (by decide) ?_
                                refine lv_goto (tgt := 111) hx hb (kn_dec tX9_both 29 rfl) (by decide) ?_
                                exact kw_lret hx hb hr hlocks I () rfl h (kn_dec tX9_both 33 rfl)
                            · have h := h.2 c21
                              refine lv_tableOut (tgt := 191) hx hb (kn_dec tX9_both 1 rfl) (by have z0 := kn_nei (k := 2) c1 (by decide); have z1 := kn_nei (k := 3) c2 (by decide); have z2 := kn_nei (k := 4) c3 (by decide); have z3 := kn_nei (k := 5) c5 (by decide); have z4 := kn_nei (k := 6) c7 (by decide); have z5 := kn_nei (k := 7) c9 (by decide); have z6 := kn_nei (k := 8) c11 (by decide); have z7 := kn_nei (k := 9) c13 (by decide); have z8 := kn_nei (k := 10) c14 (by decide); have z9 := kn_nei (k := 11) c15 (by decide); have z10 := kn_nei (k := 12) c16 (by decide); have z11 := kn_nei (k := 13) c17 (by decide); have z12 := kn_nei (k := 14) c18 (by decide); have z13 := kn_nei (k := 15) c21 (by decide); omega) (by decide) ?_
                              refine lv_lload_n hx hb (kn_dec tX9_both 83 rfl) rfl (lv_at hl 1 rfl) ?_
                              refine lv_lload_n hx hb (kn_dec tX9_both 84 rfl) rfl (lv_at hl 2 rfl) ?_
                              refine lv_lor hx hb (kn_dec tX9_both 85 rfl) ?_
                              exact kw_lret hx hb hr hlocks I () rfl h (kn_dec tX9_both 86 rfl)

/-! X9_apart -/
abbrev rmX9_apart : Room := { frames := 0, cells := 0, slots := 0, locals := 0 }
def PX9_apart  (a0 : Int32) (a1 : Int32) (post : Int32 → Prop) : Prop := ((a0 ≤ a1 → post (a1 - a0)) ∧ (¬ a0 ≤ a1 → post (a0 - a1)))
set_option maxRecDepth 100000 in
set_option maxHeartbeats 1000000 in
theorem ctX9_apart {l : Launch} {D : va_G} {tc : Nat → ClassId} {Z : (Nat → Nat) × (Nat → Nat)}   {a0 : Int32} {a1 : Int32}    {post : Int32 → Prop} (h : PX9_apart  a0 a1 post) : CTi l D tc Z yX9_apart (Cond.code yX9_apart cX9_apart 2 (some .int) :: kn_all) rmX9_apart 0 0 [.int a0, .int a1] [] (fun (u : Unit) => []) (fun (r : Int32) (u : Unit) => post r) := by
  refine kn_ofi (cc := cX9_apart) (nL := 2) (ret := (some .int)) (lv := [(0, .int a0), (1, .int a1)]) (by decide) (Nat.le_of_ble_eq_true rfl) rfl (fun p e s m below meth c ls X I hl _ => ?_)
  obtain ⟨S0, hr, hlocks, hK, hZ, hA⟩ := id X
  obtain ⟨hx, hb, hml, hown, hts⟩ := id S0
  unfold PX9_apart at h
  refine lv_iload_n hx hb (kn_dec tX9_apart 0 rfl) rfl (lv_at hl 0 rfl) ?_
  refine lv_iload_n hx hb (kn_dec tX9_apart 1 rfl) rfl (lv_at hl 1 rfl) ?_
  refine lv_icmp_le (tgt := 11) hx hb (kn_dec tX9_apart 2 rfl) (by decide) (fun c1 => ?_) (fun c1 => ?_)
  · have h := h.1 c1
    refine lv_iload_n hx hb (kn_dec tX9_apart 7 rfl) rfl (lv_at hl 1 rfl) ?_
    refine lv_iload_n hx hb (kn_dec tX9_apart 8 rfl) rfl (lv_at hl 0 rfl) ?_
    refine lv_isub hx hb (kn_dec tX9_apart 9 rfl) ?_
    exact kw_iret hx hb hr hlocks I () rfl h (kn_dec tX9_apart 10 rfl)
  · have h := h.2 c1
    refine lv_iload_n hx hb (kn_dec tX9_apart 3 rfl) rfl (lv_at hl 0 rfl) ?_
    refine lv_iload_n hx hb (kn_dec tX9_apart 4 rfl) rfl (lv_at hl 1 rfl) ?_
    refine lv_isub hx hb (kn_dec tX9_apart 5 rfl) ?_
    refine lv_goto (tgt := 14) hx hb (kn_dec tX9_apart 6 rfl) (by decide) ?_
    exact kw_iret hx hb hr hlocks I () rfl h (kn_dec tX9_apart 10 rfl)

/-! X9_fraction -/
abbrev rmX9_fraction : Room := { frames := 0, cells := 0, slots := 0, locals := 0 }
def PX9_fraction_L11   (post : Int32 → Prop) : Nat → Int32 → Int32 → Int32 → Int32 → Int32 → Prop
  | 0, _, _, _, _, _ => False
  | n + 1, y0, y1, y2, y3, y4 => ((y3 = ((0 : Int32)) → ((¬ y2 = ((0 : Int32)) → (¬ y4 = 0 ∧ post (y1 / y4))) ∧ (y2 = ((0 : Int32)) → (¬ y4 = 0 ∧ post (y0 / y4))))) ∧ (¬ y3 = ((0 : Int32)) → (¬ y3 = 0 ∧ (∀ x6 : Int32, x6 = (y4 - y4 / y3 * y3) → PX9_fraction_L11 post n y0 y1 y2 x6 y3))))
set_option maxRecDepth 100000 in
set_option maxHeartbeats 1000000 in
theorem wX9_fraction_L11   {post : Int32 → Prop}  (X : kn_X p s m args meth c cX9_fraction 6 (some .int) RX9 kn_all D tc Z (kn_A w0 s.heap.size))    : ∀ n : Nat, ∀ (H : Heap) (locs : List Loc) (ls : Array Slot) (y0 : Int32) (y1 : Int32) (y2 : Int32) (y3 : Int32) (y4 : Int32), kn_I D tc (kn_A w0 s.heap.size) s.heap [] H locs → lv_has ls 6 [(0, .int y0), (1, .int y1), (2, .int y2), (3, .int y3), (4, .int y4)] → PX9_fraction_L11 post n y0 y1 y2 y3 y4 → W p l e rmX9_fraction s m args below meth c H locs 0 0 (kn_Qi D tc w0 (fun (u : Unit) => []) (fun (r : Int32) (u : Unit) => post r) below args s 0 0) (F0 m 11 ls []) := by
  obtain ⟨S0, hr, hlocks, hK, hZ, hA⟩ := id X
  obtain ⟨hx, hb, hml, hown, hts⟩ := id S0
  intro n
  induction n with
  | zero =>
    intro H locs ls y0 y1 y2 y3 y4 I hl h
    unfold PX9_fraction_L11 at h
    exact h.elim
  | succ n ih =>
    intro H locs ls y0 y1 y2 y3 y4 I hl h
    unfold PX9_fraction_L11 at h
    refine lv_iload_n hx hb (kn_dec tX9_fraction 8 rfl) rfl (lv_at hl 3 rfl) ?_
    refine lv_if_eq (tgt := 30) hx hb (kn_dec tX9_fraction 9 rfl) (by decide) (fun c1 => ?_) (fun c1 => ?_)
    · have h := h.1 c1
      refine lv_iload_n hx hb (kn_dec tX9_fraction 19 rfl) rfl (lv_at hl 2 rfl) ?_
      refine lv_if_ne (tgt := 41) hx hb (kn_dec tX9_fraction 20 rfl) (by decide) (fun c2 => ?_) (fun c2 => ?_)
      · have h := h.1 c2
        refine lv_iload_n hx hb (kn_dec tX9_fraction 25 rfl) rfl (lv_at hl 1 rfl) ?_
        refine lv_iload hx hb (kn_dec tX9_fraction 26 rfl) (lv_at hl 4 rfl) ?_
        obtain ⟨hs3, h⟩ := h
        refine lv_idiv hx hb (kn_dec tX9_fraction 27 rfl) hs3 ?_
        exact kw_iret hx hb hr hlocks I () rfl h (kn_dec tX9_fraction 28 rfl)
      · have h := h.2 c2
        refine lv_iload_n hx hb (kn_dec tX9_fraction 21 rfl) rfl (lv_at hl 0 rfl) ?_
        refine lv_iload hx hb (kn_dec tX9_fraction 22 rfl) (lv_at hl 4 rfl) ?_
        obtain ⟨hs4, h⟩ := h
        refine lv_idiv hx hb (kn_dec tX9_fraction 23 rfl) hs4 ?_
        refine lv_goto (tgt := 45) hx hb (kn_dec tX9_fraction 24 rfl) (by decide) ?_
        exact kw_iret hx hb hr hlocks I () rfl h (kn_dec tX9_fraction 28 rfl)
    · have h := h.2 c1
      refine lv_iload hx hb (kn_dec tX9_fraction 10 rfl) (lv_at hl 4 rfl) ?_
      refine lv_iload_n hx hb (kn_dec tX9_fraction 11 rfl) rfl (lv_at hl 3 rfl) ?_
      obtain ⟨hs5, h⟩ := h
      refine lv_irem hx hb (kn_dec tX9_fraction 12 rfl) hs5 ?_
      refine lv_topi (fun x6 ex6 => ?_)
      have h := h x6 ex6
      refine lv_istore (lv' := [(5, .int _), (0, .int _), (1, .int _), (2, .int _), (3, .int _), (4, .int _)]) hx hb (kn_dec tX9_fraction 13 rfl) hl (by decide) rfl (fun ls hl => ?_)
      refine lv_iload_n hx hb (kn_dec tX9_fraction 14 rfl) rfl (lv_at hl 4 rfl) ?_
      refine lv_istore (lv' := [(4, .int _), (5, .int _), (0, .int _), (1, .int _), (2, .int _), (3, .int _)]) hx hb (kn_dec tX9_fraction 15 rfl) hl (by decide) rfl (fun ls hl => ?_)
      refine lv_iload hx hb (kn_dec tX9_fraction 16 rfl) (lv_at hl 1 rfl) ?_
      refine lv_istore_n (lv' := [(3, .int _), (4, .int _), (5, .int _), (0, .int _), (1, .int _), (2, .int _)]) hx hb (kn_dec tX9_fraction 17 rfl) rfl hl (by decide) rfl (fun ls hl => ?_)
      refine lv_goto (tgt := 11) hx hb (kn_dec tX9_fraction 18 rfl) (by decide) ?_
      exact ih _ _ _ _ _ _ _ _  I (lv_sub hl [3, 4, 5, 0, 1] rfl) h
def PX9_fraction  (a0 : Int32) (a1 : Int32) (a2 : Int32) (post : Int32 → Prop) : Prop := ((¬ a1 = ((0 : Int32)) → (∃ n2 : Nat, PX9_fraction_L11 post n2 a0 a1 a2 a0 a1)) ∧ (a1 = ((0 : Int32)) → post a2))
set_option maxRecDepth 100000 in
set_option maxHeartbeats 1000000 in
theorem ctX9_fraction {l : Launch} {D : va_G} {tc : Nat → ClassId} {Z : (Nat → Nat) × (Nat → Nat)}   {a0 : Int32} {a1 : Int32} {a2 : Int32}    {post : Int32 → Prop} (h : PX9_fraction  a0 a1 a2 post) : CTi l D tc Z yX9_fraction (Cond.code yX9_fraction cX9_fraction 6 (some .int) :: kn_all) rmX9_fraction 0 0 [.int a0, .int a1, .int a2] [] (fun (u : Unit) => []) (fun (r : Int32) (u : Unit) => post r) := by
  refine kn_ofi (cc := cX9_fraction) (nL := 6) (ret := (some .int)) (lv := [(0, .int a0), (1, .int a1), (2, .int a2)]) (by decide) (Nat.le_of_ble_eq_true rfl) rfl (fun p e s m below meth c ls X I hl _ => ?_)
  obtain ⟨S0, hr, hlocks, hK, hZ, hA⟩ := id X
  obtain ⟨hx, hb, hml, hown, hts⟩ := id S0
  unfold PX9_fraction at h
  refine lv_iload_n hx hb (kn_dec tX9_fraction 0 rfl) rfl (lv_at hl 1 rfl) ?_
  refine lv_if_ne (tgt := 6) hx hb (kn_dec tX9_fraction 1 rfl) (by decide) (fun c1 => ?_) (fun c1 => ?_)
  · have h := h.1 c1
    refine lv_iload_n hx hb (kn_dec tX9_fraction 4 rfl) rfl (lv_at hl 0 rfl) ?_
    refine lv_istore_n (lv' := [(3, .int _), (0, .int _), (1, .int _), (2, .int _)]) hx hb (kn_dec tX9_fraction 5 rfl) rfl hl (by decide) rfl (fun ls hl => ?_)
    refine lv_iload_n hx hb (kn_dec tX9_fraction 6 rfl) rfl (lv_at hl 2 rfl) ?_
    refine lv_istore (lv' := [(4, .int _), (3, .int _), (0, .int _), (1, .int _), (2, .int _)]) hx hb (kn_dec tX9_fraction 7 rfl) hl (by decide) rfl (fun ls hl => ?_)
    obtain ⟨n2, h⟩ := h
    exact wX9_fraction_L11 X n2 _ _ _ _ _ _ _ _  I (lv_sub hl [2, 3, 4, 1, 0] rfl) h
  · have h := h.2 c1
    refine lv_iload_n hx hb (kn_dec tX9_fraction 2 rfl) rfl (lv_at hl 2 rfl) ?_
    exact kw_iret hx hb hr hlocks I () rfl h (kn_dec tX9_fraction 3 rfl)

/-! X9_copies -/
abbrev rmX9_copies : Room := { frames := 0, cells := 0, slots := 0, locals := 0 }
def PX9_copies_L2 (gk0 : Nat) (gn0 : Nat) (gk1 : Nat) (gn1 : Nat)  (post : OV → Prop) : Nat → Int32 → OV → Prop
  | 0, _, _ => False
  | n + 1, y2, v_m => (((Int32.ofNat gn0) ≤ y2 → post v_m) ∧ (¬ (Int32.ofNat gn0) ≤ y2 → (vp_in y2 gn0 ∧ (∀ x3 : Int32, x3 = (v_m.2.1 gk0 y2.toNatClampNeg) → (vp_in y2 gn1 ∧ (∀ v_m5 : OV, v_m5 = sa v_m gk1 (upd (v_m.2.1 gk1) y2.toNatClampNeg x3) → (∀ x6 : Int32, x6 = y2 + (1 : Int32) → PX9_copies_L2 gk0 gn0 gk1 gn1 post n x6 v_m5)))))))
set_option maxRecDepth 100000 in
set_option maxHeartbeats 1000000 in
theorem wX9_copies_L2 {gk0 : Nat} {gn0 : Nat} {gk1 : Nat} {gn1 : Nat}  {post : OV → Prop} {ad_m : Nat → Nat} (X : kn_X p s m args meth c cX9_copies 3 none RX9 kn_all D tc Z (kn_A w0 s.heap.size)) (hm_gk0 : (gk0, 0, gn0) ∈ kModel.2) (hu_gk0 : ∀ b ∈ kModel.2, b.1 = gk0 → b = (gk0, 0, gn0)) (hm_gk1 : (gk1, 0, gn1) ∈ kModel.2) (hu_gk1 : ∀ b ∈ kModel.2, b.1 = gk1 → b = (gk1, 0, gn1))   : ∀ n : Nat, ∀ (H : Heap) (locs : List Loc) (ls : Array Slot) (y2 : Int32) (v_m : OV), kn_I D tc (kn_A w0 s.heap.size) s.heap [(kModel, ad_m, v_m)] H locs → lv_has ls 3 [(0, .ref (ad_m (gk0 + 1))), (1, .ref (ad_m (gk1 + 1))), (2, .int y2)] → PX9_copies_L2 gk0 gn0 gk1 gn1 post n y2 v_m → W p l e rmX9_copies s m args below meth c H locs 0 0 (kn_Qv D tc w0 (fun (u : OV) => [(kModel, ad_m, u)]) (fun (u : OV) => post u) below args s 0 0) (F0 m 2 ls []) := by
  obtain ⟨S0, hr, hlocks, hK, hZ, hA⟩ := id X
  obtain ⟨hx, hb, hml, hown, hts⟩ := id S0
  intro n
  induction n with
  | zero =>
    intro H locs ls y2 v_m I hl h
    unfold PX9_copies_L2 at h
    exact h.elim
  | succ n ih =>
    intro H locs ls y2 v_m I hl h
    unfold PX9_copies_L2 at h
    refine lv_iload_n hx hb (kn_dec tX9_copies 2 rfl) rfl (lv_at hl 2 rfl) ?_
    refine lv_aload_n hx hb (kn_dec tX9_copies 3 rfl) rfl (lv_at hl 0 rfl) ?_
    refine kw_alen hx hb hK I 0 rfl gk0 0 gn0 hm_gk0 rfl rfl (kn_dec tX9_copies 4 rfl) ?_
    refine lv_icmp_ge (tgt := 20) hx hb (kn_dec tX9_copies 5 rfl) (by decide) (fun c1 => ?_) (fun c1 => ?_)
    · have h := h.1 c1
      exact kw_vret hx hb hr hlocks I _ rfl h (kn_dec tX9_copies 14 rfl)
    · have h := h.2 c1
      refine lv_aload_n hx hb (kn_dec tX9_copies 6 rfl) rfl (lv_at hl 1 rfl) ?_
      refine lv_iload_n hx hb (kn_dec tX9_copies 7 rfl) rfl (lv_at hl 2 rfl) ?_
      refine lv_aload_n hx hb (kn_dec tX9_copies 8 rfl) rfl (lv_at hl 0 rfl) ?_
      refine lv_iload_n hx hb (kn_dec tX9_copies 9 rfl) rfl (lv_at hl 2 rfl) ?_
      obtain ⟨hs2, h⟩ := h
      refine kw_iald hx hb hK I 0 rfl gk0 gn0 hm_gk0 hs2 (kn_dec tX9_copies 10 rfl) ?_
      refine lv_topi (fun x3 ex3 => ?_)
      have h := h x3 ex3
      obtain ⟨hs4, h⟩ := h
      refine kw_iast hx hb hK I 0 rfl gk1 gn1 hm_gk1 hu_gk1 hs4 (kn_dec tX9_copies 11 rfl) (fun v_m5 ev_m5 H locs I => ?_)
      have h := h v_m5 ev_m5
      have I : kn_I D tc (kn_A w0 s.heap.size) s.heap [(kModel, ad_m, _)] _ _ := I
      refine kw_iinc (lvf := fun y => [(2, .int y), (0, .ref (ad_m (gk0 + 1))), (1, .ref (ad_m (gk1 + 1)))]) (nv := (1)) hx hb (kn_dec tX9_copies 12 rfl) hl (k := 2) rfl (by decide) (by decide) (fun _ => rfl) (fun x6 ex6 ls hl => ?_)
      have h := h x6 ex6
      refine lv_goto (tgt := 2) hx hb (kn_dec tX9_copies 13 rfl) (by decide) ?_
      exact ih _ _ _ _ _  I (lv_sub hl [1, 2, 0] rfl) h
def PX9_copies  (v_m : OV) (gk0 : Nat) (gn0 : Nat) (gk1 : Nat) (gn1 : Nat) (post : OV → Prop) : Prop := (∃ n1 : Nat, PX9_copies_L2 gk0 gn0 gk1 gn1 post n1 ((0 : Int32)) v_m)
set_option maxRecDepth 100000 in
set_option maxHeartbeats 1000000 in
theorem ctX9_copies {l : Launch} {D : va_G} {tc : Nat → ClassId} {Z : (Nat → Nat) × (Nat → Nat)}  {ad_m : Nat → Nat} {v_m : OV} {gk0 : Nat} {gn0 : Nat} {gk1 : Nat} {gn1 : Nat} (hm_gk0 : (gk0, 0, gn0) ∈ kModel.2) (hu_gk0 : ∀ b ∈ kModel.2, b.1 = gk0 → b = (gk0, 0, gn0)) (hm_gk1 : (gk1, 0, gn1) ∈ kModel.2) (hu_gk1 : ∀ b ∈ kModel.2, b.1 = gk1 → b = (gk1, 0, gn1))   {post : OV → Prop} (h : PX9_copies  v_m gk0 gn0 gk1 gn1 post) : CTv l D tc Z yX9_copies (Cond.code yX9_copies cX9_copies 3 none :: kn_all) rmX9_copies 0 0 [.ref (ad_m (gk0 + 1)), .ref (ad_m (gk1 + 1))] [(kModel, ad_m, v_m)] (fun (u : OV) => [(kModel, ad_m, u)]) (fun (u : OV) => post u) := by
  refine kn_ofv (cc := cX9_copies) (nL := 3) (ret := none) (lv := [(0, .ref (ad_m (gk0 + 1))), (1, .ref (ad_m (gk1 + 1)))]) (by decide) (Nat.le_of_ble_eq_true rfl) rfl (fun p e s m below meth c ls X I hl _ => ?_)
  obtain ⟨S0, hr, hlocks, hK, hZ, hA⟩ := id X
  obtain ⟨hx, hb, hml, hown, hts⟩ := id S0
  unfold PX9_copies at h
  refine lv_iconst (v := (0)) hx hb (kn_dec tX9_copies 0 rfl) (by decide) ?_
  refine lv_istore_n (lv' := [(2, .int _), (0, .ref (ad_m (gk0 + 1))), (1, .ref (ad_m (gk1 + 1)))]) hx hb (kn_dec tX9_copies 1 rfl) rfl hl (by decide) rfl (fun ls hl => ?_)
  obtain ⟨n1, h⟩ := h
  exact wX9_copies_L2 X hm_gk0 hu_gk0 hm_gk1 hu_gk1 n1 _ _ _ _ _  I (lv_sub hl [1, 2, 0] rfl) h

/-! X9_isHill -/
abbrev rmX9_isHill : Room := { frames := 0, cells := 0, slots := 0, locals := 0 }
def PX9_isHill  (v_m : OV) (post : Int32 → Prop) : Prop := (((v_m.2.1 1 ((1 : Int32)).toNatClampNeg) ≤ ((0 : Int32)) → post ((0 : Int32))) ∧ (¬ (v_m.2.1 1 ((1 : Int32)).toNatClampNeg) ≤ ((0 : Int32)) → post ((1 : Int32))))
set_option maxRecDepth 100000 in
set_option maxHeartbeats 1000000 in
theorem ctX9_isHill {l : Launch} {D : va_G} {tc : Nat → ClassId} {Z : (Nat → Nat) × (Nat → Nat)}  {ad_m : Nat → Nat} {v_m : OV}    {post : Int32 → Prop} (h : PX9_isHill  v_m post) : CTi l D tc Z yX9_isHill (Cond.code yX9_isHill cX9_isHill 1 (some .boolean) :: kn_all) rmX9_isHill 0 0 [.ref (ad_m 0)] [(kModel, ad_m, v_m)] (fun (u : Unit) => [(kModel, ad_m, v_m)]) (fun (r : Int32) (u : Unit) => (r = 0 ∨ r = 1) ∧ post r) := by
  refine kn_ofi (cc := cX9_isHill) (nL := 1) (ret := (some .boolean)) (lv := [(0, .ref (ad_m 0))]) (by decide) (Nat.le_of_ble_eq_true rfl) rfl (fun p e s m below meth c ls X I hl _ => ?_)
  obtain ⟨S0, hr, hlocks, hK, hZ, hA⟩ := id X
  obtain ⟨hx, hb, hml, hown, hts⟩ := id S0
  unfold PX9_isHill at h
  refine lv_aload_n hx hb (kn_dec tX9_isHill 0 rfl) rfl (lv_at hl 0 rfl) ?_
  refine kw_getl hx hb hts inX9 hown hK I 0 rfl rfl 1 (by decide) rfl (hts _ q4_201) (kn_dec tX9_isHill 1 rfl) rfl ?_
  refine lv_iconst (v := (1)) hx hb (kn_dec tX9_isHill 2 rfl) (by decide) ?_
  refine kw_iald hx hb hK I 0 rfl 1 12 (List.mem_of_getElem? (i := 0) rfl) (by unfold vp_in; decide) (kn_dec tX9_isHill 3 rfl) ?_
  refine lv_if_le (tgt := 13) hx hb (kn_dec tX9_isHill 4 rfl) (by decide) (fun c1 => ?_) (fun c1 => ?_)
  · have h := h.1 c1
    refine lv_iconst (v := (0)) hx hb (kn_dec tX9_isHill 7 rfl) (by decide) ?_
    exact kw_zret hx hb hr (kn_nz (Or.inl rfl)) hlocks I () rfl ⟨(Or.inl rfl), h⟩ (kn_dec tX9_isHill 8 rfl)
  · have h := h.2 c1
    refine lv_iconst (v := (1)) hx hb (kn_dec tX9_isHill 5 rfl) (by decide) ?_
    refine lv_goto (tgt := 14) hx hb (kn_dec tX9_isHill 6 rfl) (by decide) ?_
    exact kw_zret hx hb hr (kn_nz (Or.inr rfl)) hlocks I () rfl ⟨(Or.inr rfl), h⟩ (kn_dec tX9_isHill 8 rfl)

/-! X9_isStone -/
abbrev rmX9_isStone : Room := { frames := 1, cells := 0, slots := 0, locals := 25 }
def PX9_isStone  (v_m : OV) (a1 : Int32) (post : Int32 → Prop) : Prop := (PX9_in a1.toInt64 ((0 : Int64)) (((v_m.2.1 1 ((3 : Int32)).toNatClampNeg) - ((1 : Int32))).toInt64) (fun r1 => post r1))
set_option maxRecDepth 100000 in
set_option maxHeartbeats 1000000 in
theorem ctX9_isStone {l : Launch} {D : va_G} {tc : Nat → ClassId} {Z : (Nat → Nat) × (Nat → Nat)}  {ad_m : Nat → Nat} {v_m : OV} {a1 : Int32}    {post : Int32 → Prop} (h : PX9_isStone  v_m a1 post) : CTi l D tc Z yX9_isStone (Cond.code yX9_isStone cX9_isStone 2 (some .boolean) :: kn_all) rmX9_isStone 0 0 [.ref (ad_m 0), .int a1] [(kModel, ad_m, v_m)] (fun (u : Unit) => [(kModel, ad_m, v_m)]) (fun (r : Int32) (u : Unit) => (r = 0 ∨ r = 1) ∧ post r) := by
  refine kn_ofi (cc := cX9_isStone) (nL := 2) (ret := (some .boolean)) (lv := [(0, .ref (ad_m 0)), (1, .int a1)]) (by decide) (Nat.le_of_ble_eq_true rfl) rfl (fun p e s m below meth c ls X I hl _ => ?_)
  obtain ⟨S0, hr, hlocks, hK, hZ, hA⟩ := id X
  obtain ⟨hx, hb, hml, hown, hts⟩ := id S0
  unfold PX9_isStone at h
  refine lv_iload_n hx hb (kn_dec tX9_isStone 0 rfl) rfl (lv_at hl 1 rfl) ?_
  refine lv_i2l hx hb (kn_dec tX9_isStone 1 rfl) rfl ?_
  refine lv_lconst (v := 0) hx hb (kn_dec tX9_isStone 2 rfl) (by decide) ?_
  refine lv_aload_n hx hb (kn_dec tX9_isStone 3 rfl) rfl (lv_at hl 0 rfl) ?_
  refine kw_getl hx hb hts inX9 hown hK I 0 rfl rfl 1 (by decide) rfl (hts _ q4_201) (kn_dec tX9_isStone 4 rfl) rfl ?_
  refine lv_iconst (v := (3)) hx hb (kn_dec tX9_isStone 5 rfl) (by decide) ?_
  refine kw_iald hx hb hK I 0 rfl 1 12 (List.mem_of_getElem? (i := 0) rfl) (by unfold vp_in; decide) (kn_dec tX9_isStone 6 rfl) ?_
  refine lv_iconst (v := (1)) hx hb (kn_dec tX9_isStone 7 rfl) (by decide) ?_
  refine lv_isub hx hb (kn_dec tX9_isStone 8 rfl) ?_
  refine lv_i2l hx hb (kn_dec tX9_isStone 9 rfl) rfl ?_
  refine kw_calli (wc := []) (wr := [(kModel, ad_m, _)]) I hA [] [0] rfl rfl (by decide) (by decide) (kn_runS (As := [.long _, .long _, .long _]) S0 hK hZ hA I ((ctX9_in h).met _) (kn_cwS 3 hts q6_1 q6_2 q1_10 q6_3 rfl rfl (by decide +kernel) ⟨(Nat.le_of_ble_eq_true rfl), (Nat.le_of_ble_eq_true rfl)⟩) [] rfl (by decide) rfl hl.1 rfl (Nat.le_of_ble_eq_true rfl) (kn_dec tX9_isStone 10 rfl) ⟨(Nat.le_of_ble_eq_true rfl), (Nat.le_of_ble_eq_true rfl)⟩) (fun r1 u2 H locs h I => ?_)
  obtain ⟨hz_r1, h⟩ := h
  have I : kn_I D tc (kn_A _ s.heap.size) s.heap [(kModel, ad_m, _)] _ _ := I
  exact kw_zret hx hb hr (kn_nz hz_r1) hlocks I () rfl ⟨hz_r1, h⟩ (kn_dec tX9_isStone 11 rfl)

/-! X9_isSeeker -/
abbrev rmX9_isSeeker : Room := { frames := 1, cells := 0, slots := 0, locals := 25 }
def PX9_isSeeker  (v_m : OV) (a1 : Int32) (post : Int32 → Prop) : Prop := (PX9_in a1.toInt64 ((0 : Int64)) (((v_m.2.1 1 ((5 : Int32)).toNatClampNeg) - ((1 : Int32))).toInt64) (fun r1 => post r1))
set_option maxRecDepth 100000 in
set_option maxHeartbeats 1000000 in
theorem ctX9_isSeeker {l : Launch} {D : va_G} {tc : Nat → ClassId} {Z : (Nat → Nat) × (Nat → Nat)}  {ad_m : Nat → Nat} {v_m : OV} {a1 : Int32}    {post : Int32 → Prop} (h : PX9_isSeeker  v_m a1 post) : CTi l D tc Z yX9_isSeeker (Cond.code yX9_isSeeker cX9_isSeeker 2 (some .boolean) :: kn_all) rmX9_isSeeker 0 0 [.ref (ad_m 0), .int a1] [(kModel, ad_m, v_m)] (fun (u : Unit) => [(kModel, ad_m, v_m)]) (fun (r : Int32) (u : Unit) => (r = 0 ∨ r = 1) ∧ post r) := by
  refine kn_ofi (cc := cX9_isSeeker) (nL := 2) (ret := (some .boolean)) (lv := [(0, .ref (ad_m 0)), (1, .int a1)]) (by decide) (Nat.le_of_ble_eq_true rfl) rfl (fun p e s m below meth c ls X I hl _ => ?_)
  obtain ⟨S0, hr, hlocks, hK, hZ, hA⟩ := id X
  obtain ⟨hx, hb, hml, hown, hts⟩ := id S0
  unfold PX9_isSeeker at h
  refine lv_iload_n hx hb (kn_dec tX9_isSeeker 0 rfl) rfl (lv_at hl 1 rfl) ?_
  refine lv_i2l hx hb (kn_dec tX9_isSeeker 1 rfl) rfl ?_
  refine lv_lconst (v := 0) hx hb (kn_dec tX9_isSeeker 2 rfl) (by decide) ?_
  refine lv_aload_n hx hb (kn_dec tX9_isSeeker 3 rfl) rfl (lv_at hl 0 rfl) ?_
  refine kw_getl hx hb hts inX9 hown hK I 0 rfl rfl 1 (by decide) rfl (hts _ q4_201) (kn_dec tX9_isSeeker 4 rfl) rfl ?_
  refine lv_iconst (v := (5)) hx hb (kn_dec tX9_isSeeker 5 rfl) (by decide) ?_
  refine kw_iald hx hb hK I 0 rfl 1 12 (List.mem_of_getElem? (i := 0) rfl) (by unfold vp_in; decide) (kn_dec tX9_isSeeker 6 rfl) ?_
  refine lv_iconst (v := (1)) hx hb (kn_dec tX9_isSeeker 7 rfl) (by decide) ?_
  refine lv_isub hx hb (kn_dec tX9_isSeeker 8 rfl) ?_
  refine lv_i2l hx hb (kn_dec tX9_isSeeker 9 rfl) rfl ?_
  refine kw_calli (wc := []) (wr := [(kModel, ad_m, _)]) I hA [] [0] rfl rfl (by decide) (by decide) (kn_runS (As := [.long _, .long _, .long _]) S0 hK hZ hA I ((ctX9_in h).met _) (kn_cwS 3 hts q6_1 q6_2 q1_10 q6_3 rfl rfl (by decide +kernel) ⟨(Nat.le_of_ble_eq_true rfl), (Nat.le_of_ble_eq_true rfl)⟩) [] rfl (by decide) rfl hl.1 rfl (Nat.le_of_ble_eq_true rfl) (kn_dec tX9_isSeeker 10 rfl) ⟨(Nat.le_of_ble_eq_true rfl), (Nat.le_of_ble_eq_true rfl)⟩) (fun r1 u2 H locs h I => ?_)
  obtain ⟨hz_r1, h⟩ := h
  have I : kn_I D tc (kn_A _ s.heap.size) s.heap [(kModel, ad_m, _)] _ _ := I
  exact kw_zret hx hb hr (kn_nz hz_r1) hlocks I () rfl ⟨hz_r1, h⟩ (kn_dec tX9_isSeeker 11 rfl)

/-! X9_put -/
abbrev rmX9_put : Room := { frames := 0, cells := 0, slots := 0, locals := 0 }
def PX9_put_L3   (post : OV → Prop) : Nat → Int32 → Int32 → OV → Prop
  | 0, _, _, _ => False
  | n + 1, y1, y2, v_m => ((y2 < ((0 : Int32)) → post v_m) ∧ (¬ y2 < ((0 : Int32)) → (∀ x2 : Int32, x2 = ((y1 >>> (y2 &&& 31)).toInt8.toInt32) → (vp_in (v_m.1 30) 400 ∧ (∀ v_m4 : OV, v_m4 = sa v_m 40 (upd (v_m.2.1 40) (v_m.1 30).toNatClampNeg (vp_nar .byte x2)) → (∀ x5 : Int32, x5 = ((v_m4.1 30) + ((1 : Int32))) → (∀ v_m6 : OV, v_m6 = si v_m4 30 x5 → (∀ x7 : Int32, x7 = y2 + (-8 : Int32) → PX9_put_L3 post n y1 x7 v_m6))))))))
set_option maxRecDepth 100000 in
set_option maxHeartbeats 1000000 in
theorem wX9_put_L3   {post : OV → Prop} {ad_m : Nat → Nat} (X : kn_X p s m args meth c cX9_put 3 none RX9 kn_all D tc Z (kn_A w0 s.heap.size))    : ∀ n : Nat, ∀ (H : Heap) (locs : List Loc) (ls : Array Slot) (y1 : Int32) (y2 : Int32) (v_m : OV), kn_I D tc (kn_A w0 s.heap.size) s.heap [(kModel, ad_m, v_m)] H locs → lv_has ls 3 [(0, .ref (ad_m 0)), (1, .int y1), (2, .int y2)] → PX9_put_L3 post n y1 y2 v_m → W p l e rmX9_put s m args below meth c H locs 0 0 (kn_Qv D tc w0 (fun (u : OV) => [(kModel, ad_m, u)]) (fun (u : OV) => post u) below args s 0 0) (F0 m 3 ls []) := by
  obtain ⟨S0, hr, hlocks, hK, hZ, hA⟩ := id X
  obtain ⟨hx, hb, hml, hown, hts⟩ := id S0
  intro n
  induction n with
  | zero =>
    intro H locs ls y1 y2 v_m I hl h
    unfold PX9_put_L3 at h
    exact h.elim
  | succ n ih =>
    intro H locs ls y1 y2 v_m I hl h
    unfold PX9_put_L3 at h
    refine lv_iload_n hx hb (kn_dec tX9_put 2 rfl) rfl (lv_at hl 2 rfl) ?_
    refine lv_if_lt (tgt := 36) hx hb (kn_dec tX9_put 3 rfl) (by decide) (fun c1 => ?_) (fun c1 => ?_)
    · have h := h.1 c1
      exact kw_vret hx hb hr hlocks I _ rfl h (kn_dec tX9_put 21 rfl)
    · have h := h.2 c1
      refine lv_aload_n hx hb (kn_dec tX9_put 4 rfl) rfl (lv_at hl 0 rfl) ?_
      refine kw_getl hx hb hts inX9 hown hK I 0 rfl rfl 40 (by decide) rfl (hts _ q5_0) (kn_dec tX9_put 5 rfl) rfl ?_
      refine lv_aload_n hx hb (kn_dec tX9_put 6 rfl) rfl (lv_at hl 0 rfl) ?_
      refine kw_geti hx hb hts inX9 hown hK I 0 rfl rfl 30 (by decide) rfl (hts _ q4_230) (kn_dec tX9_put 7 rfl) ?_
      refine lv_iload_n hx hb (kn_dec tX9_put 8 rfl) rfl (lv_at hl 1 rfl) ?_
      refine lv_iload_n hx hb (kn_dec tX9_put 9 rfl) rfl (lv_at hl 2 rfl) ?_
      refine lv_ishr hx hb (kn_dec tX9_put 10 rfl) ?_
      refine lv_i2b hx hb (kn_dec tX9_put 11 rfl) rfl ?_
      refine lv_topi (fun x2 ex2 => ?_)
      have h := h x2 ex2
      obtain ⟨hs3, h⟩ := h
      refine kw_bast hx hb hK I 0 rfl 40 400 (List.mem_of_getElem? (i := 29) rfl) ukModel_40 hs3 (kn_dec tX9_put 12 rfl) (fun v_m4 ev_m4 H locs I => ?_)
      have h := h v_m4 ev_m4
      have I : kn_I D tc (kn_A w0 s.heap.size) s.heap [(kModel, ad_m, _)] _ _ := I
      refine lv_aload_n hx hb (kn_dec tX9_put 13 rfl) rfl (lv_at hl 0 rfl) ?_
      refine lv_dup hx hb (kn_dec tX9_put 14 rfl) rfl ?_
      refine kw_geti hx hb hts inX9 hown hK I 0 rfl rfl 30 (by decide) rfl (hts _ q4_230) (kn_dec tX9_put 15 rfl) ?_
      refine lv_iconst (v := (1)) hx hb (kn_dec tX9_put 16 rfl) (by decide) ?_
      refine lv_iadd hx hb (kn_dec tX9_put 17 rfl) ?_
      refine lv_topi (fun x5 ex5 => ?_)
      have h := h x5 ex5
      refine kw_puti hx hb hts inX9 tyX9 tyX9_ok nmX9 hown hK I 0 rfl rfl 30 (by decide) rfl (hts _ q4_230) rfl rfl rfl (kn_dec tX9_put 18 rfl) (fun v_m6 ev_m6 H locs I => ?_)
      have h := h v_m6 ev_m6
      have I : kn_I D tc (kn_A w0 s.heap.size) s.heap [(kModel, ad_m, _)] _ _ := I
      refine kw_iinc (lvf := fun y => [(2, .int y), (0, .ref (ad_m 0)), (1, .int _)]) (nv := (-8)) hx hb (kn_dec tX9_put 19 rfl) hl (k := 2) rfl (by decide) (by decide) (fun _ => rfl) (fun x7 ex7 ls hl => ?_)
      have h := h x7 ex7
      refine lv_goto (tgt := 3) hx hb (kn_dec tX9_put 20 rfl) (by decide) ?_
      exact ih _ _ _ _ _ _  I (lv_sub hl [1, 2, 0] rfl) h
def PX9_put  (v_m : OV) (a1 : Int32) (post : OV → Prop) : Prop := (∃ n1 : Nat, PX9_put_L3 post n1 a1 ((24 : Int32)) v_m)
set_option maxRecDepth 100000 in
set_option maxHeartbeats 1000000 in
theorem ctX9_put {l : Launch} {D : va_G} {tc : Nat → ClassId} {Z : (Nat → Nat) × (Nat → Nat)}  {ad_m : Nat → Nat} {v_m : OV} {a1 : Int32}    {post : OV → Prop} (h : PX9_put  v_m a1 post) : CTv l D tc Z yX9_put (Cond.code yX9_put cX9_put 3 none :: kn_all) rmX9_put 0 0 [.ref (ad_m 0), .int a1] [(kModel, ad_m, v_m)] (fun (u : OV) => [(kModel, ad_m, u)]) (fun (u : OV) => post u) := by
  refine kn_ofv (cc := cX9_put) (nL := 3) (ret := none) (lv := [(0, .ref (ad_m 0)), (1, .int a1)]) (by decide) (Nat.le_of_ble_eq_true rfl) rfl (fun p e s m below meth c ls X I hl _ => ?_)
  obtain ⟨S0, hr, hlocks, hK, hZ, hA⟩ := id X
  obtain ⟨hx, hb, hml, hown, hts⟩ := id S0
  unfold PX9_put at h
  refine lv_bipush (v := (24)) hx hb (kn_dec tX9_put 0 rfl) (by decide) ?_
  refine lv_istore_n (lv' := [(2, .int _), (0, .ref (ad_m 0)), (1, .int _)]) hx hb (kn_dec tX9_put 1 rfl) rfl hl (by decide) rfl (fun ls hl => ?_)
  obtain ⟨n1, h⟩ := h
  exact wX9_put_L3 X n1 _ _ _ _ _ _  I (lv_sub hl [1, 2, 0] rfl) h

/-! X9_feed -/
abbrev rmX9_feed : Room := { frames := 1, cells := 0, slots := 0, locals := 22 }
def PX9_feed  (v_m : OV) (a1 : Int32) (a2 : Int32) (a3 : Int32) (a4 : Int32) (a5 : Int32) (post : Int32 → OV → Prop) : Prop := ((((v_m.1 30) + ((20 : Int32))) ≤ ((400 : Int32)) → (PX9_put v_m a1 (fun v_m2 => (PX9_put v_m2 a2 (fun v_m4 => (PX9_put v_m4 a3 (fun v_m6 => (PX9_put v_m6 a4 (fun v_m8 => (PX9_put v_m8 a5 (fun v_m10 => post (v_m10.1 30) v_m10))))))))))) ∧ (¬ ((v_m.1 30) + ((20 : Int32))) ≤ ((400 : Int32)) → post ((-1 : Int32)) v_m))
set_option maxRecDepth 100000 in
set_option maxHeartbeats 1000000 in
theorem ctX9_feed {l : Launch} {D : va_G} {tc : Nat → ClassId} {Z : (Nat → Nat) × (Nat → Nat)}  {ad_m : Nat → Nat} {v_m : OV} {a1 : Int32} {a2 : Int32} {a3 : Int32} {a4 : Int32} {a5 : Int32}    {post : Int32 → OV → Prop} (h : PX9_feed  v_m a1 a2 a3 a4 a5 post) : CTi l D tc Z yX9_feed (Cond.code yX9_feed cX9_feed 6 (some .int) :: kn_all) rmX9_feed 0 0 [.ref (ad_m 0), .int a1, .int a2, .int a3, .int a4, .int a5] [(kModel, ad_m, v_m)] (fun (u : OV) => [(kModel, ad_m, u)]) (fun (r : Int32) (u : OV) => post r u) := by
  refine kn_ofi (cc := cX9_feed) (nL := 6) (ret := (some .int)) (lv := [(0, .ref (ad_m 0)), (1, .int a1), (2, .int a2), (3, .int a3), (4, .int a4), (5, .int a5)]) (by decide) (Nat.le_of_ble_eq_true rfl) rfl (fun p e s m below meth c ls X I hl _ => ?_)
  obtain ⟨S0, hr, hlocks, hK, hZ, hA⟩ := id X
  obtain ⟨hx, hb, hml, hown, hts⟩ := id S0
  unfold PX9_feed at h
  refine lv_aload_n hx hb (kn_dec tX9_feed 0 rfl) rfl (lv_at hl 0 rfl) ?_
  refine kw_geti hx hb hts inX9 hown hK I 0 rfl rfl 30 (by decide) rfl (hts _ q4_230) (kn_dec tX9_feed 1 rfl) ?_
  refine lv_bipush (v := (20)) hx hb (kn_dec tX9_feed 2 rfl) (by decide) ?_
  refine lv_iadd hx hb (kn_dec tX9_feed 3 rfl) ?_
  refine lv_sipush (v := (400)) hx hb (kn_dec tX9_feed 4 rfl) (by decide) ?_
  refine lv_icmp_le (tgt := 15) hx hb (kn_dec tX9_feed 5 rfl) (by decide) (fun c1 => ?_) (fun c1 => ?_)
  · have h := h.1 c1
    refine lv_aload_n hx hb (kn_dec tX9_feed 8 rfl) rfl (lv_at hl 0 rfl) ?_
    refine lv_iload_n hx hb (kn_dec tX9_feed 9 rfl) rfl (lv_at hl 1 rfl) ?_
    refine kw_callv (wc := [(kModel, ad_m, _)]) (wr := []) I hA [0] [] rfl rfl (by decide) (by decide) (kn_runV (As := [.int _]) S0 hK hZ hA I ((ctX9_put h).met _) (kn_cwV 1 hts q5_167 q5_169 q0_29 q1_10 q5_170 rfl rfl (by decide +kernel) ⟨(Nat.le_of_ble_eq_true rfl), (Nat.le_of_ble_eq_true rfl)⟩) [0] rfl (by decide) 0 rfl rfl rfl rfl hl.1 rfl (Nat.le_of_ble_eq_true rfl) (kn_dec tX9_feed 10 rfl) ⟨(Nat.le_of_ble_eq_true rfl), (Nat.le_of_ble_eq_true rfl)⟩) (fun u3 H locs h I => ?_)
    have I : kn_I D tc (kn_A _ s.heap.size) s.heap [(kModel, ad_m, _)] _ _ := I
    refine lv_aload_n hx hb (kn_dec tX9_feed 11 rfl) rfl (lv_at hl 0 rfl) ?_
    refine lv_iload_n hx hb (kn_dec tX9_feed 12 rfl) rfl (lv_at hl 2 rfl) ?_
    refine kw_callv (wc := [(kModel, ad_m, _)]) (wr := []) I hA [0] [] rfl rfl (by decide) (by decide) (kn_runV (As := [.int _]) S0 hK hZ hA I ((ctX9_put h).met _) (kn_cwV 1 hts q5_167 q5_169 q0_29 q1_10 q5_170 rfl rfl (by decide +kernel) ⟨(Nat.le_of_ble_eq_true rfl), (Nat.le_of_ble_eq_true rfl)⟩) [0] rfl (by decide) 0 rfl rfl rfl rfl hl.1 rfl (Nat.le_of_ble_eq_true rfl) (kn_dec tX9_feed 13 rfl) ⟨(Nat.le_of_ble_eq_true rfl), (Nat.le_of_ble_eq_true rfl)⟩) (fun u5 H locs h I => ?_)
    have I : kn_I D tc (kn_A _ s.heap.size) s.heap [(kModel, ad_m, _)] _ _ := I
    refine lv_aload_n hx hb (kn_dec tX9_feed 14 rfl) rfl (lv_at hl 0 rfl) ?_
    refine lv_iload_n hx hb (kn_dec tX9_feed 15 rfl) rfl (lv_at hl 3 rfl) ?_
    refine kw_callv (wc := [(kModel, ad_m, _)]) (wr := []) I hA [0] [] rfl rfl (by decide) (by decide) (kn_runV (As := [.int _]) S0 hK hZ hA I ((ctX9_put h).met _) (kn_cwV 1 hts q5_167 q5_169 q0_29 q1_10 q5_170 rfl rfl (by decide +kernel) ⟨(Nat.le_of_ble_eq_true rfl), (Nat.le_of_ble_eq_true rfl)⟩) [0] rfl (by decide) 0 rfl rfl rfl rfl hl.1 rfl (Nat.le_of_ble_eq_true rfl) (kn_dec tX9_feed 16 rfl) ⟨(Nat.le_of_ble_eq_true rfl), (Nat.le_of_ble_eq_true rfl)⟩) (fun u7 H locs h I => ?_)
    have I : kn_I D tc (kn_A _ s.heap.size) s.heap [(kModel, ad_m, _)] _ _ := I
    refine lv_aload_n hx hb (kn_dec tX9_feed 17 rfl) rfl (lv_at hl 0 rfl) ?_
    refine lv_iload hx hb (kn_dec tX9_feed 18 rfl) (lv_at hl 4 rfl) ?_
    refine kw_callv (wc := [(kModel, ad_m, _)]) (wr := []) I hA [0] [] rfl rfl (by decide) (by decide) (kn_runV (As := [.int _]) S0 hK hZ hA I ((ctX9_put h).met _) (kn_cwV 1 hts q5_167 q5_169 q0_29 q1_10 q5_170 rfl rfl (by decide +kernel) ⟨(Nat.le_of_ble_eq_true rfl), (Nat.le_of_ble_eq_true rfl)⟩) [0] rfl (by decide) 0 rfl rfl rfl rfl hl.1 rfl (Nat.le_of_ble_eq_true rfl) (kn_dec tX9_feed 19 rfl) ⟨(Nat.le_of_ble_eq_true rfl), (Nat.le_of_ble_eq_true rfl)⟩) (fun u9 H locs h I => ?_)
    have I : kn_I D tc (kn_A _ s.heap.size) s.heap [(kModel, ad_m, _)] _ _ := I
    refine lv_aload_n hx hb (kn_dec tX9_feed 20 rfl) rfl (lv_at hl 0 rfl) ?_
    refine lv_iload hx hb (kn_dec tX9_feed 21 rfl) (lv_at hl 5 rfl) ?_
    refine kw_callv (wc := [(kModel, ad_m, _)]) (wr := []) I hA [0] [] rfl rfl (by decide) (by decide) (kn_runV (As := [.int _]) S0 hK hZ hA I ((ctX9_put h).met _) (kn_cwV 1 hts q5_167 q5_169 q0_29 q1_10 q5_170 rfl rfl (by decide +kernel) ⟨(Nat.le_of_ble_eq_true rfl), (Nat.le_of_ble_eq_true rfl)⟩) [0] rfl (by decide) 0 rfl rfl rfl rfl hl.1 rfl (Nat.le_of_ble_eq_true rfl) (kn_dec tX9_feed 22 rfl) ⟨(Nat.le_of_ble_eq_true rfl), (Nat.le_of_ble_eq_true rfl)⟩) (fun u11 H locs h I => ?_)
    have I : kn_I D tc (kn_A _ s.heap.size) s.heap [(kModel, ad_m, _)] _ _ := I
    refine lv_aload_n hx hb (kn_dec tX9_feed 23 rfl) rfl (lv_at hl 0 rfl) ?_
    refine kw_geti hx hb hts inX9 hown hK I 0 rfl rfl 30 (by decide) rfl (hts _ q4_230) (kn_dec tX9_feed 24 rfl) ?_
    exact kw_iret hx hb hr hlocks I _ rfl h (kn_dec tX9_feed 25 rfl)
  · have h := h.2 c1
    refine lv_iconst (v := (-1)) hx hb (kn_dec tX9_feed 6 rfl) (by decide) ?_
    exact kw_iret hx hb hr hlocks I _ rfl h (kn_dec tX9_feed 7 rfl)

/-! X9_end -/
abbrev rmX9_end : Room := { frames := 0, cells := 0, slots := 0, locals := 0 }
def PX9_end  (v_m : OV) (a1 : Int32) (post : Int32 → OV → Prop) : Prop := ((a1 < ((0 : Int32)) → post ((-1 : Int32)) v_m) ∧ (¬ a1 < ((0 : Int32)) → ((a1 ≤ (v_m.1 30) → (∀ v_m3 : OV, v_m3 = si v_m 30 a1 → post a1 v_m3)) ∧ (¬ a1 ≤ (v_m.1 30) → post ((-1 : Int32)) v_m))))
set_option maxRecDepth 100000 in
set_option maxHeartbeats 1000000 in
theorem ctX9_end {l : Launch} {D : va_G} {tc : Nat → ClassId} {Z : (Nat → Nat) × (Nat → Nat)}  {ad_m : Nat → Nat} {v_m : OV} {a1 : Int32}    {post : Int32 → OV → Prop} (h : PX9_end  v_m a1 post) : CTi l D tc Z yX9_end (Cond.code yX9_end cX9_end 2 (some .int) :: kn_all) rmX9_end 0 0 [.ref (ad_m 0), .int a1] [(kModel, ad_m, v_m)] (fun (u : OV) => [(kModel, ad_m, u)]) (fun (r : Int32) (u : OV) => post r u) := by
  refine kn_ofi (cc := cX9_end) (nL := 2) (ret := (some .int)) (lv := [(0, .ref (ad_m 0)), (1, .int a1)]) (by decide) (Nat.le_of_ble_eq_true rfl) rfl (fun p e s m below meth c ls X I hl _ => ?_)
  obtain ⟨S0, hr, hlocks, hK, hZ, hA⟩ := id X
  obtain ⟨hx, hb, hml, hown, hts⟩ := id S0
  unfold PX9_end at h
  refine lv_iload_n hx hb (kn_dec tX9_end 0 rfl) rfl (lv_at hl 1 rfl) ?_
  refine lv_if_lt (tgt := 12) hx hb (kn_dec tX9_end 1 rfl) (by decide) (fun c1 => ?_) (fun c1 => ?_)
  · have h := h.1 c1
    refine lv_iconst (v := (-1)) hx hb (kn_dec tX9_end 6 rfl) (by decide) ?_
    exact kw_iret hx hb hr hlocks I _ rfl h (kn_dec tX9_end 7 rfl)
  · have h := h.2 c1
    refine lv_iload_n hx hb (kn_dec tX9_end 2 rfl) rfl (lv_at hl 1 rfl) ?_
    refine lv_aload_n hx hb (kn_dec tX9_end 3 rfl) rfl (lv_at hl 0 rfl) ?_
    refine kw_geti hx hb hts inX9 hown hK I 0 rfl rfl 30 (by decide) rfl (hts _ q4_230) (kn_dec tX9_end 4 rfl) ?_
    refine lv_icmp_le (tgt := 14) hx hb (kn_dec tX9_end 5 rfl) (by decide) (fun c2 => ?_) (fun c2 => ?_)
    · have h := h.1 c2
      refine lv_aload_n hx hb (kn_dec tX9_end 8 rfl) rfl (lv_at hl 0 rfl) ?_
      refine lv_iload_n hx hb (kn_dec tX9_end 9 rfl) rfl (lv_at hl 1 rfl) ?_
      refine kw_puti hx hb hts inX9 tyX9 tyX9_ok nmX9 hown hK I 0 rfl rfl 30 (by decide) rfl (hts _ q4_230) rfl rfl rfl (kn_dec tX9_end 10 rfl) (fun v_m3 ev_m3 H locs I => ?_)
      have h := h v_m3 ev_m3
      have I : kn_I D tc (kn_A _ s.heap.size) s.heap [(kModel, ad_m, _)] _ _ := I
      refine lv_iload_n hx hb (kn_dec tX9_end 11 rfl) rfl (lv_at hl 1 rfl) ?_
      exact kw_iret hx hb hr hlocks I _ rfl h (kn_dec tX9_end 12 rfl)
    · have h := h.2 c2
      refine lv_iconst (v := (-1)) hx hb (kn_dec tX9_end 6 rfl) (by decide) ?_
      exact kw_iret hx hb hr hlocks I _ rfl h (kn_dec tX9_end 7 rfl)

/-! X9_fails -/
abbrev rmX9_fails : Room := { frames := 0, cells := 0, slots := 0, locals := 0 }
def PX9_fails  (v_m : OV) (a1 : Int32) (a2 : Int32) (post : OV → Prop) : Prop := ((¬ (v_m.1 32) = ((0 : Int32)) → (∀ x2 : Int32, x2 = (v_m.1 32) → (∀ v_m3 : OV, v_m3 = si v_m 32 x2 → post v_m3))) ∧ ((v_m.1 32) = ((0 : Int32)) → (∀ x4 : Int32, x4 = ((((1 : Int32)) + (((8 : Int32)) * a2)) + a1) → (∀ v_m5 : OV, v_m5 = si v_m 32 x4 → post v_m5))))
set_option maxRecDepth 100000 in
set_option maxHeartbeats 1000000 in
theorem ctX9_fails {l : Launch} {D : va_G} {tc : Nat → ClassId} {Z : (Nat → Nat) × (Nat → Nat)}  {ad_m : Nat → Nat} {v_m : OV} {a1 : Int32} {a2 : Int32}    {post : OV → Prop} (h : PX9_fails  v_m a1 a2 post) : CTv l D tc Z yX9_fails (Cond.code yX9_fails cX9_fails 3 none :: kn_all) rmX9_fails 0 0 [.ref (ad_m 0), .int a1, .int a2] [(kModel, ad_m, v_m)] (fun (u : OV) => [(kModel, ad_m, u)]) (fun (u : OV) => post u) := by
  refine kn_ofv (cc := cX9_fails) (nL := 3) (ret := none) (lv := [(0, .ref (ad_m 0)), (1, .int a1), (2, .int a2)]) (by decide) (Nat.le_of_ble_eq_true rfl) rfl (fun p e s m below meth c ls X I hl _ => ?_)
  obtain ⟨S0, hr, hlocks, hK, hZ, hA⟩ := id X
  obtain ⟨hx, hb, hml, hown, hts⟩ := id S0
  unfold PX9_fails at h
  refine lv_aload_n hx hb (kn_dec tX9_fails 0 rfl) rfl (lv_at hl 0 rfl) ?_
  refine lv_aload_n hx hb (kn_dec tX9_fails 1 rfl) rfl (lv_at hl 0 rfl) ?_
  refine kw_geti hx hb hts inX9 hown hK I 0 rfl rfl 32 (by decide) rfl (hts _ q4_232) (kn_dec tX9_fails 2 rfl) ?_
  refine lv_if_ne (tgt := 19) hx hb (kn_dec tX9_fails 3 rfl) (by decide) (fun c1 => ?_) (fun c1 => ?_)
  · have h := h.1 c1
    refine lv_aload_n hx hb (kn_dec tX9_fails 12 rfl) rfl (lv_at hl 0 rfl) ?_
    refine kw_geti hx hb hts inX9 hown hK I 0 rfl rfl 32 (by decide) rfl (hts _ q4_232) (kn_dec tX9_fails 13 rfl) ?_
    refine lv_topi (fun x2 ex2 => ?_)
    have h := h x2 ex2
    refine kw_puti hx hb hts inX9 tyX9 tyX9_ok nmX9 hown hK I 0 rfl rfl 32 (by decide) rfl (hts _ q4_232) rfl rfl rfl (kn_dec tX9_fails 14 rfl) (fun v_m3 ev_m3 H locs I => ?_)
    have h := h v_m3 ev_m3
    have I : kn_I D tc (kn_A _ s.heap.size) s.heap [(kModel, ad_m, _)] _ _ := I
    exact kw_vret hx hb hr hlocks I _ rfl h (kn_dec tX9_fails 15 rfl)
  · have h := h.2 c1
    refine lv_iconst (v := (1)) hx hb (kn_dec tX9_fails 4 rfl) (by decide) ?_
    refine lv_bipush (v := (8)) hx hb (kn_dec tX9_fails 5 rfl) (by decide) ?_
    refine lv_iload_n hx hb (kn_dec tX9_fails 6 rfl) rfl (lv_at hl 2 rfl) ?_
    refine lv_imul hx hb (kn_dec tX9_fails 7 rfl) ?_
    refine lv_iadd hx hb (kn_dec tX9_fails 8 rfl) ?_
    refine lv_iload_n hx hb (kn_dec tX9_fails 9 rfl) rfl (lv_at hl 1 rfl) ?_
    refine lv_iadd hx hb (kn_dec tX9_fails 10 rfl) ?_
    refine lv_goto (tgt := 23) hx hb (kn_dec tX9_fails 11 rfl) (by decide) ?_
    refine lv_topi (fun x4 ex4 => ?_)
    have h := h x4 ex4
    refine kw_puti hx hb hts inX9 tyX9 tyX9_ok nmX9 hown hK I 0 rfl rfl 32 (by decide) rfl (hts _ q4_232) rfl rfl rfl (kn_dec tX9_fails 14 rfl) (fun v_m5 ev_m5 H locs I => ?_)
    have h := h v_m5 ev_m5
    have I : kn_I D tc (kn_A _ s.heap.size) s.heap [(kModel, ad_m, _)] _ _ := I
    exact kw_vret hx hb hr hlocks I _ rfl h (kn_dec tX9_fails 15 rfl)

/-! X9_sign -/
abbrev rmX9_sign : Room := { frames := 0, cells := 0, slots := 0, locals := 0 }
def PX9_sign  (v_m : OV) (post : Int32 → Prop) : Prop := (((v_m.1 30) ≤ (v_m.1 31) → post ((-1 : Int32))) ∧ (¬ (v_m.1 30) ≤ (v_m.1 31) → (vp_in (v_m.1 31) 400 ∧ post ((v_m.2.1 40 (v_m.1 31).toNatClampNeg) &&& ((255 : Int32))))))
set_option maxRecDepth 100000 in
set_option maxHeartbeats 1000000 in
theorem ctX9_sign {l : Launch} {D : va_G} {tc : Nat → ClassId} {Z : (Nat → Nat) × (Nat → Nat)}  {ad_m : Nat → Nat} {v_m : OV}    {post : Int32 → Prop} (h : PX9_sign  v_m post) : CTi l D tc Z yX9_sign (Cond.code yX9_sign cX9_sign 1 (some .int) :: kn_all) rmX9_sign 0 0 [.ref (ad_m 0)] [(kModel, ad_m, v_m)] (fun (u : Unit) => [(kModel, ad_m, v_m)]) (fun (r : Int32) (u : Unit) => post r) := by
  refine kn_ofi (cc := cX9_sign) (nL := 1) (ret := (some .int)) (lv := [(0, .ref (ad_m 0))]) (by decide) (Nat.le_of_ble_eq_true rfl) rfl (fun p e s m below meth c ls X I hl _ => ?_)
  obtain ⟨S0, hr, hlocks, hK, hZ, hA⟩ := id X
  obtain ⟨hx, hb, hml, hown, hts⟩ := id S0
  unfold PX9_sign at h
  refine lv_aload_n hx hb (kn_dec tX9_sign 0 rfl) rfl (lv_at hl 0 rfl) ?_
  refine kw_geti hx hb hts inX9 hown hK I 0 rfl rfl 31 (by decide) rfl (hts _ q4_231) (kn_dec tX9_sign 1 rfl) ?_
  refine lv_aload_n hx hb (kn_dec tX9_sign 2 rfl) rfl (lv_at hl 0 rfl) ?_
  refine kw_geti hx hb hts inX9 hown hK I 0 rfl rfl 30 (by decide) rfl (hts _ q4_230) (kn_dec tX9_sign 3 rfl) ?_
  refine lv_icmp_ge (tgt := 27) hx hb (kn_dec tX9_sign 4 rfl) (by decide) (fun c1 => ?_) (fun c1 => ?_)
  · have h := h.1 c1
    refine lv_iconst (v := (-1)) hx hb (kn_dec tX9_sign 13 rfl) (by decide) ?_
    exact kw_iret hx hb hr hlocks I () rfl h (kn_dec tX9_sign 14 rfl)
  · have h := h.2 c1
    refine lv_aload_n hx hb (kn_dec tX9_sign 5 rfl) rfl (lv_at hl 0 rfl) ?_
    refine kw_getl hx hb hts inX9 hown hK I 0 rfl rfl 40 (by decide) rfl (hts _ q5_0) (kn_dec tX9_sign 6 rfl) rfl ?_
    refine lv_aload_n hx hb (kn_dec tX9_sign 7 rfl) rfl (lv_at hl 0 rfl) ?_
    refine kw_geti hx hb hts inX9 hown hK I 0 rfl rfl 31 (by decide) rfl (hts _ q4_231) (kn_dec tX9_sign 8 rfl) ?_
    obtain ⟨hs2, h⟩ := h
    refine kw_bald hx hb hK I 0 rfl 40 400 (List.mem_of_getElem? (i := 29) rfl) hs2 (kn_dec tX9_sign 9 rfl) ?_
    refine lv_sipush (v := (255)) hx hb (kn_dec tX9_sign 10 rfl) (by decide) ?_
    refine lv_iand hx hb (kn_dec tX9_sign 11 rfl) ?_
    refine lv_goto (tgt := 28) hx hb (kn_dec tX9_sign 12 rfl) (by decide) ?_
    exact kw_iret hx hb hr hlocks I () rfl h (kn_dec tX9_sign 14 rfl)

/-! X9_blanks -/
abbrev rmX9_blanks : Room := { frames := 1, cells := 0, slots := 0, locals := 20 }
def PX9_blanks_L0   (post : OV → Prop) : Nat → OV → Prop
  | 0, _ => False
  | n + 1, v_m => (PX9_sign v_m (fun r1 => ((¬ r1 = ((32 : Int32)) → post v_m) ∧ (r1 = ((32 : Int32)) → (∀ x4 : Int32, x4 = ((v_m.1 31) + ((1 : Int32))) → (∀ v_m5 : OV, v_m5 = si v_m 31 x4 → PX9_blanks_L0 post n v_m5))))))
set_option maxRecDepth 100000 in
set_option maxHeartbeats 1000000 in
theorem wX9_blanks_L0   {post : OV → Prop} {ad_m : Nat → Nat} (X : kn_X p s m args meth c cX9_blanks 1 none RX9 kn_all D tc Z (kn_A w0 s.heap.size))    : ∀ n : Nat, ∀ (H : Heap) (locs : List Loc) (ls : Array Slot) (v_m : OV), kn_I D tc (kn_A w0 s.heap.size) s.heap [(kModel, ad_m, v_m)] H locs → lv_has ls 1 [(0, .ref (ad_m 0))] → PX9_blanks_L0 post n v_m → W p l e rmX9_blanks s m args below meth c H locs 0 0 (kn_Qv D tc w0 (fun (u : OV) => [(kModel, ad_m, u)]) (fun (u : OV) => post u) below args s 0 0) (F0 m 0 ls []) := by
  obtain ⟨S0, hr, hlocks, hK, hZ, hA⟩ := id X
  obtain ⟨hx, hb, hml, hown, hts⟩ := id S0
  intro n
  induction n with
  | zero =>
    intro H locs ls v_m I hl h
    unfold PX9_blanks_L0 at h
    exact h.elim
  | succ n ih =>
    intro H locs ls v_m I hl h
    unfold PX9_blanks_L0 at h
    refine lv_aload_n hx hb (kn_dec tX9_blanks 0 rfl) rfl (lv_at hl 0 rfl) ?_
    refine kw_calli (wc := [(kModel, ad_m, _)]) (wr := []) I hA [0] [] rfl rfl (by decide) (by decide) (kn_runV (As := []) S0 hK hZ hA I ((ctX9_sign h).met _) (kn_cwV 0 hts q5_195 q5_197 q0_34 q1_10 q5_198 rfl rfl (by decide +kernel) ⟨(Nat.le_of_ble_eq_true rfl), (Nat.le_of_ble_eq_true rfl)⟩) [0] rfl (by decide) 0 rfl rfl rfl rfl hl.1 rfl (Nat.le_of_ble_eq_true rfl) (kn_dec tX9_blanks 1 rfl) ⟨(Nat.le_of_ble_eq_true rfl), (Nat.le_of_ble_eq_true rfl)⟩) (fun r1 u2 H locs h I => ?_)
    have I : kn_I D tc (kn_A w0 s.heap.size) s.heap [(kModel, ad_m, _)] _ _ := I
    refine lv_bipush (v := (32)) hx hb (kn_dec tX9_blanks 2 rfl) (by decide) ?_
    refine lv_icmp_ne (tgt := 22) hx hb (kn_dec tX9_blanks 3 rfl) (by decide) (fun c3 => ?_) (fun c3 => ?_)
    · have h := h.1 c3
      exact kw_vret hx hb hr hlocks I _ rfl h (kn_dec tX9_blanks 11 rfl)
    · have h := h.2 c3
      refine lv_aload_n hx hb (kn_dec tX9_blanks 4 rfl) rfl (lv_at hl 0 rfl) ?_
      refine lv_dup hx hb (kn_dec tX9_blanks 5 rfl) rfl ?_
      refine kw_geti hx hb hts inX9 hown hK I 0 rfl rfl 31 (by decide) rfl (hts _ q4_231) (kn_dec tX9_blanks 6 rfl) ?_
      refine lv_iconst (v := (1)) hx hb (kn_dec tX9_blanks 7 rfl) (by decide) ?_
      refine lv_iadd hx hb (kn_dec tX9_blanks 8 rfl) ?_
      refine lv_topi (fun x4 ex4 => ?_)
      have h := h x4 ex4
      refine kw_puti hx hb hts inX9 tyX9 tyX9_ok nmX9 hown hK I 0 rfl rfl 31 (by decide) rfl (hts _ q4_231) rfl rfl rfl (kn_dec tX9_blanks 9 rfl) (fun v_m5 ev_m5 H locs I => ?_)
      have h := h v_m5 ev_m5
      have I : kn_I D tc (kn_A w0 s.heap.size) s.heap [(kModel, ad_m, _)] _ _ := I
      refine lv_goto (tgt := 0) hx hb (kn_dec tX9_blanks 10 rfl) (by decide) ?_
      exact ih _ _ _ _  I (lv_sub hl [0] rfl) h
def PX9_blanks  (v_m : OV) (post : OV → Prop) : Prop := (∃ n1 : Nat, PX9_blanks_L0 post n1 v_m)
set_option maxRecDepth 100000 in
set_option maxHeartbeats 1000000 in
theorem ctX9_blanks {l : Launch} {D : va_G} {tc : Nat → ClassId} {Z : (Nat → Nat) × (Nat → Nat)}  {ad_m : Nat → Nat} {v_m : OV}    {post : OV → Prop} (h : PX9_blanks  v_m post) : CTv l D tc Z yX9_blanks (Cond.code yX9_blanks cX9_blanks 1 none :: kn_all) rmX9_blanks 0 0 [.ref (ad_m 0)] [(kModel, ad_m, v_m)] (fun (u : OV) => [(kModel, ad_m, u)]) (fun (u : OV) => post u) := by
  refine kn_ofv (cc := cX9_blanks) (nL := 1) (ret := none) (lv := [(0, .ref (ad_m 0))]) (by decide) (Nat.le_of_ble_eq_true rfl) rfl (fun p e s m below meth c ls X I hl _ => ?_)
  obtain ⟨S0, hr, hlocks, hK, hZ, hA⟩ := id X
  obtain ⟨hx, hb, hml, hown, hts⟩ := id S0
  unfold PX9_blanks at h
  obtain ⟨n1, h⟩ := h
  exact wX9_blanks_L0 X n1 _ _ _ _  I (lv_sub hl [0] rfl) h

/-! X9_isDigit -/
abbrev rmX9_isDigit : Room := { frames := 1, cells := 0, slots := 0, locals := 25 }
def PX9_isDigit  (v_m : OV) (post : Int32 → Prop) : Prop := (PX9_sign v_m (fun r1 => (PX9_in r1.toInt64 ((48 : Int64)) ((57 : Int64)) (fun r3 => post r3))))
set_option maxRecDepth 100000 in
set_option maxHeartbeats 1000000 in
theorem ctX9_isDigit {l : Launch} {D : va_G} {tc : Nat → ClassId} {Z : (Nat → Nat) × (Nat → Nat)}  {ad_m : Nat → Nat} {v_m : OV}    {post : Int32 → Prop} (h : PX9_isDigit  v_m post) : CTi l D tc Z yX9_isDigit (Cond.code yX9_isDigit cX9_isDigit 1 (some .boolean) :: kn_all) rmX9_isDigit 0 0 [.ref (ad_m 0)] [(kModel, ad_m, v_m)] (fun (u : Unit) => [(kModel, ad_m, v_m)]) (fun (r : Int32) (u : Unit) => (r = 0 ∨ r = 1) ∧ post r) := by
  refine kn_ofi (cc := cX9_isDigit) (nL := 1) (ret := (some .boolean)) (lv := [(0, .ref (ad_m 0))]) (by decide) (Nat.le_of_ble_eq_true rfl) rfl (fun p e s m below meth c ls X I hl _ => ?_)
  obtain ⟨S0, hr, hlocks, hK, hZ, hA⟩ := id X
  obtain ⟨hx, hb, hml, hown, hts⟩ := id S0
  unfold PX9_isDigit at h
  refine lv_aload_n hx hb (kn_dec tX9_isDigit 0 rfl) rfl (lv_at hl 0 rfl) ?_
  refine kw_calli (wc := [(kModel, ad_m, _)]) (wr := []) I hA [0] [] rfl rfl (by decide) (by decide) (kn_runV (As := []) S0 hK hZ hA I ((ctX9_sign h).met _) (kn_cwV 0 hts q5_195 q5_197 q0_34 q1_10 q5_198 rfl rfl (by decide +kernel) ⟨(Nat.le_of_ble_eq_true rfl), (Nat.le_of_ble_eq_true rfl)⟩) [0] rfl (by decide) 0 rfl rfl rfl rfl hl.1 rfl (Nat.le_of_ble_eq_true rfl) (kn_dec tX9_isDigit 1 rfl) ⟨(Nat.le_of_ble_eq_true rfl), (Nat.le_of_ble_eq_true rfl)⟩) (fun r1 u2 H locs h I => ?_)
  have I : kn_I D tc (kn_A _ s.heap.size) s.heap [(kModel, ad_m, _)] _ _ := I
  refine lv_i2l hx hb (kn_dec tX9_isDigit 2 rfl) rfl ?_
  refine lv_ldc2 (v := (48)) hx hb hown (hts _ q5_239) (kn_dec tX9_isDigit 3 rfl) ?_
  refine lv_ldc2 (v := (57)) hx hb hown (hts _ q6_0) (kn_dec tX9_isDigit 4 rfl) ?_
  refine kw_calli (wc := []) (wr := [(kModel, ad_m, _)]) I hA [] [0] rfl rfl (by decide) (by decide) (kn_runS (As := [.long _, .long _, .long _]) S0 hK hZ hA I ((ctX9_in h).met _) (kn_cwS 3 hts q6_1 q6_2 q1_10 q6_3 rfl rfl (by decide +kernel) ⟨(Nat.le_of_ble_eq_true rfl), (Nat.le_of_ble_eq_true rfl)⟩) [] rfl (by decide) rfl hl.1 rfl (Nat.le_of_ble_eq_true rfl) (kn_dec tX9_isDigit 5 rfl) ⟨(Nat.le_of_ble_eq_true rfl), (Nat.le_of_ble_eq_true rfl)⟩) (fun r3 u4 H locs h I => ?_)
  obtain ⟨hz_r3, h⟩ := h
  have I : kn_I D tc (kn_A _ s.heap.size) s.heap [(kModel, ad_m, _)] _ _ := I
  exact kw_zret hx hb hr (kn_nz hz_r3) hlocks I () rfl ⟨hz_r3, h⟩ (kn_dec tX9_isDigit 6 rfl)

/-! X9_entry -/
abbrev rmX9_entry : Room := { frames := 0, cells := 0, slots := 0, locals := 0 }
def PX9_entry  (v_m : OV) (a1 : Int32) (a2 : Int32) (post : OV → Prop) : Prop := ((¬ (v_m.1 32) = ((0 : Int32)) → post v_m) ∧ ((v_m.1 32) = ((0 : Int32)) → (vp_in ((((300 : Int32)) * (v_m.1 33)) + (v_m.1 35)) 1800 ∧ (∀ v_m3 : OV, v_m3 = sa v_m 41 (upd (v_m.2.1 41) ((((300 : Int32)) * (v_m.1 33)) + (v_m.1 35)).toNatClampNeg a1) → (vp_in ((((300 : Int32)) * (v_m3.1 33)) + (v_m3.1 35)) 1800 ∧ (∀ v_m5 : OV, v_m5 = sa v_m3 42 (upd (v_m3.2.1 42) ((((300 : Int32)) * (v_m3.1 33)) + (v_m3.1 35)).toNatClampNeg a2) → (∀ x6 : Int32, x6 = ((v_m5.1 35) + ((1 : Int32))) → (∀ v_m7 : OV, v_m7 = si v_m5 35 x6 → post v_m7))))))))
set_option maxRecDepth 100000 in
set_option maxHeartbeats 1000000 in
theorem ctX9_entry {l : Launch} {D : va_G} {tc : Nat → ClassId} {Z : (Nat → Nat) × (Nat → Nat)}  {ad_m : Nat → Nat} {v_m : OV} {a1 : Int32} {a2 : Int32}    {post : OV → Prop} (h : PX9_entry  v_m a1 a2 post) : CTv l D tc Z yX9_entry (Cond.code yX9_entry cX9_entry 3 none :: kn_all) rmX9_entry 0 0 [.ref (ad_m 0), .int a1, .int a2] [(kModel, ad_m, v_m)] (fun (u : OV) => [(kModel, ad_m, u)]) (fun (u : OV) => post u) := by
  refine kn_ofv (cc := cX9_entry) (nL := 3) (ret := none) (lv := [(0, .ref (ad_m 0)), (1, .int a1), (2, .int a2)]) (by decide) (Nat.le_of_ble_eq_true rfl) rfl (fun p e s m below meth c ls X I hl _ => ?_)
  obtain ⟨S0, hr, hlocks, hK, hZ, hA⟩ := id X
  obtain ⟨hx, hb, hml, hown, hts⟩ := id S0
  unfold PX9_entry at h
  refine lv_aload_n hx hb (kn_dec tX9_entry 0 rfl) rfl (lv_at hl 0 rfl) ?_
  refine kw_geti hx hb hts inX9 hown hK I 0 rfl rfl 32 (by decide) rfl (hts _ q4_232) (kn_dec tX9_entry 1 rfl) ?_
  refine lv_if_ne (tgt := 55) hx hb (kn_dec tX9_entry 2 rfl) (by decide) (fun c1 => ?_) (fun c1 => ?_)
  · have h := h.1 c1
    exact kw_vret hx hb hr hlocks I _ rfl h (kn_dec tX9_entry 31 rfl)
  · have h := h.2 c1
    refine lv_aload_n hx hb (kn_dec tX9_entry 3 rfl) rfl (lv_at hl 0 rfl) ?_
    refine kw_getl hx hb hts inX9 hown hK I 0 rfl rfl 41 (by decide) rfl (hts _ q5_1) (kn_dec tX9_entry 4 rfl) rfl ?_
    refine lv_sipush (v := (300)) hx hb (kn_dec tX9_entry 5 rfl) (by decide) ?_
    refine lv_aload_n hx hb (kn_dec tX9_entry 6 rfl) rfl (lv_at hl 0 rfl) ?_
    refine kw_geti hx hb hts inX9 hown hK I 0 rfl rfl 33 (by decide) rfl (hts _ q4_233) (kn_dec tX9_entry 7 rfl) ?_
    refine lv_imul hx hb (kn_dec tX9_entry 8 rfl) ?_
    refine lv_aload_n hx hb (kn_dec tX9_entry 9 rfl) rfl (lv_at hl 0 rfl) ?_
    refine kw_geti hx hb hts inX9 hown hK I 0 rfl rfl 35 (by decide) rfl (hts _ q4_235) (kn_dec tX9_entry 10 rfl) ?_
    refine lv_iadd hx hb (kn_dec tX9_entry 11 rfl) ?_
    refine lv_iload_n hx hb (kn_dec tX9_entry 12 rfl) rfl (lv_at hl 1 rfl) ?_
    obtain ⟨hs2, h⟩ := h
    refine kw_iast hx hb hK I 0 rfl 41 1800 (List.mem_of_getElem? (i := 30) rfl) ukModel_41 hs2 (kn_dec tX9_entry 13 rfl) (fun v_m3 ev_m3 H locs I => ?_)
    have h := h v_m3 ev_m3
    have I : kn_I D tc (kn_A _ s.heap.size) s.heap [(kModel, ad_m, _)] _ _ := I
    refine lv_aload_n hx hb (kn_dec tX9_entry 14 rfl) rfl (lv_at hl 0 rfl) ?_
    refine kw_getl hx hb hts inX9 hown hK I 0 rfl rfl 42 (by decide) rfl (hts _ q5_2) (kn_dec tX9_entry 15 rfl) rfl ?_
    refine lv_sipush (v := (300)) hx hb (kn_dec tX9_entry 16 rfl) (by decide) ?_
    refine lv_aload_n hx hb (kn_dec tX9_entry 17 rfl) rfl (lv_at hl 0 rfl) ?_
    refine kw_geti hx hb hts inX9 hown hK I 0 rfl rfl 33 (by decide) rfl (hts _ q4_233) (kn_dec tX9_entry 18 rfl) ?_
    refine lv_imul hx hb (kn_dec tX9_entry 19 rfl) ?_
    refine lv_aload_n hx hb (kn_dec tX9_entry 20 rfl) rfl (lv_at hl 0 rfl) ?_
    refine kw_geti hx hb hts inX9 hown hK I 0 rfl rfl 35 (by decide) rfl (hts _ q4_235) (kn_dec tX9_entry 21 rfl) ?_
    refine lv_iadd hx hb (kn_dec tX9_entry 22 rfl) ?_
    refine lv_iload_n hx hb (kn_dec tX9_entry 23 rfl) rfl (lv_at hl 2 rfl) ?_
    obtain ⟨hs4, h⟩ := h
    refine kw_iast hx hb hK I 0 rfl 42 1800 (List.mem_of_getElem? (i := 31) rfl) ukModel_42 hs4 (kn_dec tX9_entry 24 rfl) (fun v_m5 ev_m5 H locs I => ?_)
    have h := h v_m5 ev_m5
    have I : kn_I D tc (kn_A _ s.heap.size) s.heap [(kModel, ad_m, _)] _ _ := I
    refine lv_aload_n hx hb (kn_dec tX9_entry 25 rfl) rfl (lv_at hl 0 rfl) ?_
    refine lv_dup hx hb (kn_dec tX9_entry 26 rfl) rfl ?_
    refine kw_geti hx hb hts inX9 hown hK I 0 rfl rfl 35 (by decide) rfl (hts _ q4_235) (kn_dec tX9_entry 27 rfl) ?_
    refine lv_iconst (v := (1)) hx hb (kn_dec tX9_entry 28 rfl) (by decide) ?_
    refine lv_iadd hx hb (kn_dec tX9_entry 29 rfl) ?_
    refine lv_topi (fun x6 ex6 => ?_)
    have h := h x6 ex6
    refine kw_puti hx hb hts inX9 tyX9 tyX9_ok nmX9 hown hK I 0 rfl rfl 35 (by decide) rfl (hts _ q4_235) rfl rfl rfl (kn_dec tX9_entry 30 rfl) (fun v_m7 ev_m7 H locs I => ?_)
    have h := h v_m7 ev_m7
    have I : kn_I D tc (kn_A _ s.heap.size) s.heap [(kModel, ad_m, _)] _ _ := I
    exact kw_vret hx hb hr hlocks I _ rfl h (kn_dec tX9_entry 31 rfl)

/-! X9_isCounted -/
abbrev rmX9_isCounted : Room := { frames := 1, cells := 0, slots := 0, locals := 22 }
def PX9_isCounted_b15   (post : OV → Prop) (v_m : OV) : Prop := (∀ x1 : Int32, x1 = ((v_m.1 37) + ((1 : Int32))) → (∀ v_m2 : OV, v_m2 = si v_m 37 x1 → post v_m2))
set_option maxRecDepth 100000 in
set_option maxHeartbeats 1000000 in
theorem wX9_isCounted_b15   {post : OV → Prop} {ad_m : Nat → Nat} (X : kn_X p s m args meth c cX9_isCounted 2 none RX9 kn_all D tc Z (kn_A w0 s.heap.size))    : ∀ (H : Heap) (locs : List Loc) (ls : Array Slot) (v_m : OV), kn_I D tc (kn_A w0 s.heap.size) s.heap [(kModel, ad_m, v_m)] H locs → lv_has ls 2 [(0, .ref (ad_m 0))] → PX9_isCounted_b15 post v_m → W p l e rmX9_isCounted s m args below meth c H locs 0 0 (kn_Qv D tc w0 (fun (u : OV) => [(kModel, ad_m, u)]) (fun (u : OV) => post u) below args s 0 0) (F0 m 15 ls []) := by
  obtain ⟨S0, hr, hlocks, hK, hZ, hA⟩ := id X
  obtain ⟨hx, hb, hml, hown, hts⟩ := id S0
  intro H locs ls v_m I hl h
  unfold PX9_isCounted_b15 at h
  refine lv_aload_n hx hb (kn_dec tX9_isCounted 8 rfl) rfl (lv_at hl 0 rfl) ?_
  refine lv_dup hx hb (kn_dec tX9_isCounted 9 rfl) rfl ?_
  refine kw_geti hx hb hts inX9 hown hK I 0 rfl rfl 37 (by decide) rfl (hts _ q4_237) (kn_dec tX9_isCounted 10 rfl) ?_
  refine lv_iconst (v := (1)) hx hb (kn_dec tX9_isCounted 11 rfl) (by decide) ?_
  refine lv_iadd hx hb (kn_dec tX9_isCounted 12 rfl) ?_
  refine lv_topi (fun x1 ex1 => ?_)
  have h := h x1 ex1
  refine kw_puti hx hb hts inX9 tyX9 tyX9_ok nmX9 hown hK I 0 rfl rfl 37 (by decide) rfl (hts _ q4_237) rfl rfl rfl (kn_dec tX9_isCounted 13 rfl) (fun v_m2 ev_m2 H locs I => ?_)
  have h := h v_m2 ev_m2
  have I : kn_I D tc (kn_A w0 s.heap.size) s.heap [(kModel, ad_m, _)] _ _ := I
  exact kw_vret hx hb hr hlocks I _ rfl h (kn_dec tX9_isCounted 14 rfl)
def PX9_isCounted  (v_m : OV) (a1 : Int32) (post : OV → Prop) : Prop := ((¬ (v_m.1 37) = ((60 : Int32)) → PX9_isCounted_b15 post v_m) ∧ ((v_m.1 37) = ((60 : Int32)) → (PX9_fails v_m ((3 : Int32)) a1 (fun v_m2 => PX9_isCounted_b15 post v_m2))))
set_option maxRecDepth 100000 in
set_option maxHeartbeats 1000000 in
theorem ctX9_isCounted {l : Launch} {D : va_G} {tc : Nat → ClassId} {Z : (Nat → Nat) × (Nat → Nat)}  {ad_m : Nat → Nat} {v_m : OV} {a1 : Int32}    {post : OV → Prop} (h : PX9_isCounted  v_m a1 post) : CTv l D tc Z yX9_isCounted (Cond.code yX9_isCounted cX9_isCounted 2 none :: kn_all) rmX9_isCounted 0 0 [.ref (ad_m 0), .int a1] [(kModel, ad_m, v_m)] (fun (u : OV) => [(kModel, ad_m, u)]) (fun (u : OV) => post u) := by
  refine kn_ofv (cc := cX9_isCounted) (nL := 2) (ret := none) (lv := [(0, .ref (ad_m 0)), (1, .int a1)]) (by decide) (Nat.le_of_ble_eq_true rfl) rfl (fun p e s m below meth c ls X I hl _ => ?_)
  obtain ⟨S0, hr, hlocks, hK, hZ, hA⟩ := id X
  obtain ⟨hx, hb, hml, hown, hts⟩ := id S0
  unfold PX9_isCounted at h
  refine lv_aload_n hx hb (kn_dec tX9_isCounted 0 rfl) rfl (lv_at hl 0 rfl) ?_
  refine kw_geti hx hb hts inX9 hown hK I 0 rfl rfl 37 (by decide) rfl (hts _ q4_237) (kn_dec tX9_isCounted 1 rfl) ?_
  refine lv_bipush (v := (60)) hx hb (kn_dec tX9_isCounted 2 rfl) (by decide) ?_
  refine lv_icmp_ne (tgt := 15) hx hb (kn_dec tX9_isCounted 3 rfl) (by decide) (fun c1 => ?_) (fun c1 => ?_)
  · have h := h.1 c1
    exact wX9_isCounted_b15 X _ _ _ _  I (lv_sub hl [0] rfl) h
  · have h := h.2 c1
    refine lv_aload_n hx hb (kn_dec tX9_isCounted 4 rfl) rfl (lv_at hl 0 rfl) ?_
    refine lv_iconst (v := (3)) hx hb (kn_dec tX9_isCounted 5 rfl) (by decide) ?_
    refine lv_iload_n hx hb (kn_dec tX9_isCounted 6 rfl) rfl (lv_at hl 1 rfl) ?_
    refine kw_callv (wc := [(kModel, ad_m, _)]) (wr := []) I hA [0] [] rfl rfl (by decide) (by decide) (kn_runV (As := [.int _, .int _]) S0 hK hZ hA I ((ctX9_fails h).met _) (kn_cwV 2 hts q5_214 q5_216 q0_36 q1_10 q5_217 rfl rfl (by decide +kernel) ⟨(Nat.le_of_ble_eq_true rfl), (Nat.le_of_ble_eq_true rfl)⟩) [0] rfl (by decide) 0 rfl rfl rfl rfl hl.1 rfl (Nat.le_of_ble_eq_true rfl) (kn_dec tX9_isCounted 7 rfl) ⟨(Nat.le_of_ble_eq_true rfl), (Nat.le_of_ble_eq_true rfl)⟩) (fun u3 H locs h I => ?_)
    have I : kn_I D tc (kn_A _ s.heap.size) s.heap [(kModel, ad_m, _)] _ _ := I
    exact wX9_isCounted_b15 X _ _ _ _  I (lv_sub hl [0] rfl) h

/-! X9_digits -/
abbrev rmX9_digits : Room := { frames := 2, cells := 0, slots := 0, locals := 45 }
def PX9_digits_b87   (post : Int32 → OV → Prop) (y2 : Int32) (y3 : Int32) (v_m : OV) : Prop := (PX9_fails v_m ((1 : Int32)) y2 (fun v_m1 => post y3 v_m1))
set_option maxRecDepth 100000 in
set_option maxHeartbeats 1000000 in
theorem wX9_digits_b87   {post : Int32 → OV → Prop} {ad_m : Nat → Nat} (X : kn_X p s m args meth c cX9_digits 4 (some .int) RX9 kn_all D tc Z (kn_A w0 s.heap.size))    : ∀ (H : Heap) (locs : List Loc) (ls : Array Slot) (y2 : Int32) (y3 : Int32) (v_m : OV), kn_I D tc (kn_A w0 s.heap.size) s.heap [(kModel, ad_m, v_m)] H locs → lv_has ls 4 [(0, .ref (ad_m 0)), (2, .int y2), (3, .int y3)] → PX9_digits_b87 post y2 y3 v_m → W p l e rmX9_digits s m args below meth c H locs 0 0 (kn_Qi D tc w0 (fun (u : OV) => [(kModel, ad_m, u)]) (fun (r : Int32) (u : OV) => post r u) below args s 0 0) (F0 m 87 ls []) := by
  obtain ⟨S0, hr, hlocks, hK, hZ, hA⟩ := id X
  obtain ⟨hx, hb, hml, hown, hts⟩ := id S0
  intro H locs ls y2 y3 v_m I hl h
  unfold PX9_digits_b87 at h
  refine lv_aload_n hx hb (kn_dec tX9_digits 51 rfl) rfl (lv_at hl 0 rfl) ?_
  refine lv_iconst (v := (1)) hx hb (kn_dec tX9_digits 52 rfl) (by decide) ?_
  refine lv_iload_n hx hb (kn_dec tX9_digits 53 rfl) rfl (lv_at hl 1 rfl) ?_
  refine kw_callv (wc := [(kModel, ad_m, _)]) (wr := []) I hA [0] [] rfl rfl (by decide) (by decide) (kn_runV (As := [.int _, .int _]) S0 hK hZ hA I ((ctX9_fails h).met _) (kn_cwV 2 hts q5_214 q5_216 q0_36 q1_10 q5_217 rfl rfl (by decide +kernel) ⟨(Nat.le_of_ble_eq_true rfl), (Nat.le_of_ble_eq_true rfl)⟩) [0] rfl (by decide) 0 rfl rfl rfl rfl hl.1 rfl (Nat.le_of_ble_eq_true rfl) (kn_dec tX9_digits 54 rfl) ⟨(Nat.le_of_ble_eq_true rfl), (Nat.le_of_ble_eq_true rfl)⟩) (fun u2 H locs h I => ?_)
  have I : kn_I D tc (kn_A w0 s.heap.size) s.heap [(kModel, ad_m, _)] _ _ := I
  refine lv_iload_n hx hb (kn_dec tX9_digits 55 rfl) rfl (lv_at hl 2 rfl) ?_
  exact kw_iret hx hb hr hlocks I _ rfl h (kn_dec tX9_digits 56 rfl)
def PX9_digits_b58  (K25 : Int32 → Int32 → Int32 → OV → Prop) (post : Int32 → OV → Prop) (t0 : Int32) (y1 : Int32) (y2 : Int32) (v_m : OV) : Prop := (∀ x1 : Int32, x1 = ((v_m.1 31) + ((1 : Int32))) → (∀ v_m2 : OV, v_m2 = si v_m 31 x1 → K25 y1 y2 t0 v_m2))
set_option maxRecDepth 100000 in
set_option maxHeartbeats 1000000 in
theorem wX9_digits_b58  {K25 : Int32 → Int32 → Int32 → OV → Prop} {post : Int32 → OV → Prop} {ad_m : Nat → Nat} (X : kn_X p s m args meth c cX9_digits 4 (some .int) RX9 kn_all D tc Z (kn_A w0 s.heap.size))   (hK25 : ∀ (H : Heap) (locs : List Loc) (ls : Array Slot) (y1 : Int32) (y2 : Int32) (y3 : Int32) (v_m : OV), kn_I D tc (kn_A w0 s.heap.size) s.heap [(kModel, ad_m, v_m)] H locs → lv_has ls 4 [(0, .ref (ad_m 0)), (1, .int y1), (2, .int y2), (3, .int y3)] → K25 y1 y2 y3 v_m → W p l e rmX9_digits s m args below meth c H locs 0 0 (kn_Qi D tc w0 (fun (u : OV) => [(kModel, ad_m, u)]) (fun (r : Int32) (u : OV) => post r u) below args s 0 0) (F0 m 25 ls [])) : ∀ (H : Heap) (locs : List Loc) (ls : Array Slot) (t0 : Int32) (y1 : Int32) (y2 : Int32) (v_m : OV), kn_I D tc (kn_A w0 s.heap.size) s.heap [(kModel, ad_m, v_m)] H locs → lv_has ls 4 [(0, .ref (ad_m 0)), (1, .int y1), (2, .int y2)] → PX9_digits_b58 K25 post t0 y1 y2 v_m → W p l e rmX9_digits s m args below meth c H locs 0 0 (kn_Qi D tc w0 (fun (u : OV) => [(kModel, ad_m, u)]) (fun (r : Int32) (u : OV) => post r u) below args s 0 0) (F0 m 58 ls [.int t0]) := by
  obtain ⟨S0, hr, hlocks, hK, hZ, hA⟩ := id X
  obtain ⟨hx, hb, hml, hown, hts⟩ := id S0
  intro H locs ls t0 y1 y2 v_m I hl h
  unfold PX9_digits_b58 at h
  refine lv_istore_n (lv' := [(3, .int _), (0, .ref (ad_m 0)), (1, .int _), (2, .int _)]) hx hb (kn_dec tX9_digits 34 rfl) rfl hl (by decide) rfl (fun ls hl => ?_)
  refine lv_aload_n hx hb (kn_dec tX9_digits 35 rfl) rfl (lv_at hl 1 rfl) ?_
  refine lv_dup hx hb (kn_dec tX9_digits 36 rfl) rfl ?_
  refine kw_geti hx hb hts inX9 hown hK I 0 rfl rfl 31 (by decide) rfl (hts _ q4_231) (kn_dec tX9_digits 37 rfl) ?_
  refine lv_iconst (v := (1)) hx hb (kn_dec tX9_digits 38 rfl) (by decide) ?_
  refine lv_iadd hx hb (kn_dec tX9_digits 39 rfl) ?_
  refine lv_topi (fun x1 ex1 => ?_)
  have h := h x1 ex1
  refine kw_puti hx hb hts inX9 tyX9 tyX9_ok nmX9 hown hK I 0 rfl rfl 31 (by decide) rfl (hts _ q4_231) rfl rfl rfl (kn_dec tX9_digits 40 rfl) (fun v_m2 ev_m2 H locs I => ?_)
  have h := h v_m2 ev_m2
  have I : kn_I D tc (kn_A w0 s.heap.size) s.heap [(kModel, ad_m, _)] _ _ := I
  refine lv_goto (tgt := 25) hx hb (kn_dec tX9_digits 41 rfl) (by decide) ?_
  exact hK25 _ _ _ _ _ _ _  I (lv_sub hl [1, 2, 3, 0] rfl) h
def PX9_digits_L25   (post : Int32 → OV → Prop) : Nat → Int32 → Int32 → Int32 → OV → Prop
  | 0, _, _, _, _ => False
  | n + 1, y1, y2, y3, v_m => (PX9_isDigit v_m (fun r1 => ((r1 = ((0 : Int32)) → ((((5 : Int32)) < ((v_m.1 31) - y2) → PX9_digits_b87 post y2 y3 v_m) ∧ (¬ ((5 : Int32)) < ((v_m.1 31) - y2) → ((y3 ≤ y1 → post y3 v_m) ∧ (¬ y3 ≤ y1 → PX9_digits_b87 post y2 y3 v_m))))) ∧ (¬ r1 = ((0 : Int32)) → ((((5 : Int32)) ≤ ((v_m.1 31) - y2) → PX9_digits_b58 (PX9_digits_L25 post n) post y3 y1 y2 v_m) ∧ (¬ ((5 : Int32)) ≤ ((v_m.1 31) - y2) → (PX9_sign v_m (fun r7 => PX9_digits_b58 (PX9_digits_L25 post n) post (((((10 : Int32)) * y3) + r7) - ((48 : Int32))) y1 y2 v_m))))))))
set_option maxRecDepth 100000 in
set_option maxHeartbeats 1000000 in
theorem wX9_digits_L25   {post : Int32 → OV → Prop} {ad_m : Nat → Nat} (X : kn_X p s m args meth c cX9_digits 4 (some .int) RX9 kn_all D tc Z (kn_A w0 s.heap.size))    : ∀ n : Nat, ∀ (H : Heap) (locs : List Loc) (ls : Array Slot) (y1 : Int32) (y2 : Int32) (y3 : Int32) (v_m : OV), kn_I D tc (kn_A w0 s.heap.size) s.heap [(kModel, ad_m, v_m)] H locs → lv_has ls 4 [(0, .ref (ad_m 0)), (1, .int y1), (2, .int y2), (3, .int y3)] → PX9_digits_L25 post n y1 y2 y3 v_m → W p l e rmX9_digits s m args below meth c H locs 0 0 (kn_Qi D tc w0 (fun (u : OV) => [(kModel, ad_m, u)]) (fun (r : Int32) (u : OV) => post r u) below args s 0 0) (F0 m 25 ls []) := by
  obtain ⟨S0, hr, hlocks, hK, hZ, hA⟩ := id X
  obtain ⟨hx, hb, hml, hown, hts⟩ := id S0
  intro n
  induction n with
  | zero =>
    intro H locs ls y1 y2 y3 v_m I hl h
    unfold PX9_digits_L25 at h
    exact h.elim
  | succ n ih =>
    intro H locs ls y1 y2 y3 v_m I hl h
    unfold PX9_digits_L25 at h
    refine lv_aload_n hx hb (kn_dec tX9_digits 15 rfl) rfl (lv_at hl 0 rfl) ?_
    refine kw_calli (wc := [(kModel, ad_m, _)]) (wr := []) I hA [0] [] rfl rfl (by decide) (by decide) (kn_runV (As := []) S0 hK hZ hA I ((ctX9_isDigit h).met _) (kn_cwV 0 hts q5_235 q5_237 q0_41 q1_10 q5_238 rfl rfl (by decide +kernel) ⟨(Nat.le_of_ble_eq_true rfl), (Nat.le_of_ble_eq_true rfl)⟩) [0] rfl (by decide) 0 rfl rfl rfl rfl hl.1 rfl (Nat.le_of_ble_eq_true rfl) (kn_dec tX9_digits 16 rfl) ⟨(Nat.le_of_ble_eq_true rfl), (Nat.le_of_ble_eq_true rfl)⟩) (fun r1 u2 H locs h I => ?_)
    obtain ⟨hz_r1, h⟩ := h
    have I : kn_I D tc (kn_A w0 s.heap.size) s.heap [(kModel, ad_m, _)] _ _ := I
    refine lv_if_eq (tgt := 72) hx hb (kn_dec tX9_digits 17 rfl) (by decide) (fun c3 => ?_) (fun c3 => ?_)
    · have h := h.1 c3
      refine lv_aload_n hx hb (kn_dec tX9_digits 42 rfl) rfl (lv_at hl 0 rfl) ?_
      refine kw_geti hx hb hts inX9 hown hK I 0 rfl rfl 31 (by decide) rfl (hts _ q4_231) (kn_dec tX9_digits 43 rfl) ?_
      refine lv_iload_n hx hb (kn_dec tX9_digits 44 rfl) rfl (lv_at hl 2 rfl) ?_
      refine lv_isub hx hb (kn_dec tX9_digits 45 rfl) ?_
      refine lv_iconst (v := (5)) hx hb (kn_dec tX9_digits 46 rfl) (by decide) ?_
      refine lv_icmp_gt (tgt := 87) hx hb (kn_dec tX9_digits 47 rfl) (by decide) (fun c4 => ?_) (fun c4 => ?_)
      · have h := h.1 c4
        exact wX9_digits_b87 X _ _ _ _ _ _  I (lv_sub hl [0, 2, 3] rfl) h
      · have h := h.2 c4
        refine lv_iload_n hx hb (kn_dec tX9_digits 48 rfl) rfl (lv_at hl 3 rfl) ?_
        refine lv_iload_n hx hb (kn_dec tX9_digits 49 rfl) rfl (lv_at hl 1 rfl) ?_
        refine lv_icmp_le (tgt := 93) hx hb (kn_dec tX9_digits 50 rfl) (by decide) (fun c5 => ?_) (fun c5 => ?_)
        · have h := h.1 c5
          refine lv_iload_n hx hb (kn_dec tX9_digits 55 rfl) rfl (lv_at hl 3 rfl) ?_
          exact kw_iret hx hb hr hlocks I _ rfl h (kn_dec tX9_digits 56 rfl)
        · have h := h.2 c5
          exact wX9_digits_b87 X _ _ _ _ _ _  I (lv_sub hl [0, 2, 3] rfl) h
    · have h := h.2 c3
      refine lv_aload_n hx hb (kn_dec tX9_digits 18 rfl) rfl (lv_at hl 0 rfl) ?_
      refine kw_geti hx hb hts inX9 hown hK I 0 rfl rfl 31 (by decide) rfl (hts _ q4_231) (kn_dec tX9_digits 19 rfl) ?_
      refine lv_iload_n hx hb (kn_dec tX9_digits 20 rfl) rfl (lv_at hl 2 rfl) ?_
      refine lv_isub hx hb (kn_dec tX9_digits 21 rfl) ?_
      refine lv_iconst (v := (5)) hx hb (kn_dec tX9_digits 22 rfl) (by decide) ?_
      refine lv_icmp_ge (tgt := 57) hx hb (kn_dec tX9_digits 23 rfl) (by decide) (fun c6 => ?_) (fun c6 => ?_)
      · have h := h.1 c6
        refine lv_iload_n hx hb (kn_dec tX9_digits 33 rfl) rfl (lv_at hl 3 rfl) ?_
        exact wX9_digits_b58 X ih _ _ _ _ _ _ _  I (lv_sub hl [0, 1, 2] rfl) h
      · have h := h.2 c6
        refine lv_bipush (v := (10)) hx hb (kn_dec tX9_digits 24 rfl) (by decide) ?_
        refine lv_iload_n hx hb (kn_dec tX9_digits 25 rfl) rfl (lv_at hl 3 rfl) ?_
        refine lv_imul hx hb (kn_dec tX9_digits 26 rfl) ?_
        refine lv_aload_n hx hb (kn_dec tX9_digits 27 rfl) rfl (lv_at hl 0 rfl) ?_
        refine kw_calli (wc := [(kModel, ad_m, _)]) (wr := []) I hA [0] [] rfl rfl (by decide) (by decide) (kn_runV (As := []) S0 hK hZ hA I ((ctX9_sign h).met _) (kn_cwV 0 hts q5_195 q5_197 q0_34 q1_10 q5_198 rfl rfl (by decide +kernel) ⟨(Nat.le_of_ble_eq_true rfl), (Nat.le_of_ble_eq_true rfl)⟩) [0] rfl (by decide) 0 rfl rfl rfl rfl hl.1 rfl (Nat.le_of_ble_eq_true rfl) (kn_dec tX9_digits 28 rfl) ⟨(Nat.le_of_ble_eq_true rfl), (Nat.le_of_ble_eq_true rfl)⟩) (fun r7 u8 H locs h I => ?_)
        have I : kn_I D tc (kn_A w0 s.heap.size) s.heap [(kModel, ad_m, _)] _ _ := I
        refine lv_iadd hx hb (kn_dec tX9_digits 29 rfl) ?_
        refine lv_bipush (v := (48)) hx hb (kn_dec tX9_digits 30 rfl) (by decide) ?_
        refine lv_isub hx hb (kn_dec tX9_digits 31 rfl) ?_
        refine lv_goto (tgt := 58) hx hb (kn_dec tX9_digits 32 rfl) (by decide) ?_
        exact wX9_digits_b58 X ih _ _ _ _ _ _ _  I (lv_sub hl [0, 1, 2] rfl) h
def PX9_digits  (v_m : OV) (a1 : Int32) (post : Int32 → OV → Prop) : Prop := (PX9_isDigit v_m (fun r1 => ((¬ r1 = ((0 : Int32)) → (∀ x4 : Int32, x4 = (v_m.1 31) → (∃ n5 : Nat, PX9_digits_L25 post n5 a1 x4 ((0 : Int32)) v_m))) ∧ (r1 = ((0 : Int32)) → (PX9_fails v_m ((0 : Int32)) (v_m.1 31) (fun v_m6 => post ((0 : Int32)) v_m6))))))
set_option maxRecDepth 100000 in
set_option maxHeartbeats 1000000 in
theorem ctX9_digits {l : Launch} {D : va_G} {tc : Nat → ClassId} {Z : (Nat → Nat) × (Nat → Nat)}  {ad_m : Nat → Nat} {v_m : OV} {a1 : Int32}    {post : Int32 → OV → Prop} (h : PX9_digits  v_m a1 post) : CTi l D tc Z yX9_digits (Cond.code yX9_digits cX9_digits 4 (some .int) :: kn_all) rmX9_digits 0 0 [.ref (ad_m 0), .int a1] [(kModel, ad_m, v_m)] (fun (u : OV) => [(kModel, ad_m, u)]) (fun (r : Int32) (u : OV) => post r u) := by
  refine kn_ofi (cc := cX9_digits) (nL := 4) (ret := (some .int)) (lv := [(0, .ref (ad_m 0)), (1, .int a1)]) (by decide) (Nat.le_of_ble_eq_true rfl) rfl (fun p e s m below meth c ls X I hl _ => ?_)
  obtain ⟨S0, hr, hlocks, hK, hZ, hA⟩ := id X
  obtain ⟨hx, hb, hml, hown, hts⟩ := id S0
  unfold PX9_digits at h
  refine lv_aload_n hx hb (kn_dec tX9_digits 0 rfl) rfl (lv_at hl 0 rfl) ?_
  refine kw_calli (wc := [(kModel, ad_m, _)]) (wr := []) I hA [0] [] rfl rfl (by decide) (by decide) (kn_runV (As := []) S0 hK hZ hA I ((ctX9_isDigit h).met _) (kn_cwV 0 hts q5_235 q5_237 q0_41 q1_10 q5_238 rfl rfl (by decide +kernel) ⟨(Nat.le_of_ble_eq_true rfl), (Nat.le_of_ble_eq_true rfl)⟩) [0] rfl (by decide) 0 rfl rfl rfl rfl hl.1 rfl (Nat.le_of_ble_eq_true rfl) (kn_dec tX9_digits 1 rfl) ⟨(Nat.le_of_ble_eq_true rfl), (Nat.le_of_ble_eq_true rfl)⟩) (fun r1 u2 H locs h I => ?_)
  obtain ⟨hz_r1, h⟩ := h
  have I : kn_I D tc (kn_A _ s.heap.size) s.heap [(kModel, ad_m, _)] _ _ := I
  refine lv_if_ne (tgt := 18) hx hb (kn_dec tX9_digits 2 rfl) (by decide) (fun c3 => ?_) (fun c3 => ?_)
  · have h := h.1 c3
    refine lv_aload_n hx hb (kn_dec tX9_digits 10 rfl) rfl (lv_at hl 0 rfl) ?_
    refine kw_geti hx hb hts inX9 hown hK I 0 rfl rfl 31 (by decide) rfl (hts _ q4_231) (kn_dec tX9_digits 11 rfl) ?_
    refine lv_topi (fun x4 ex4 => ?_)
    have h := h x4 ex4
    refine lv_istore_n (lv' := [(2, .int _), (0, .ref (ad_m 0)), (1, .int _)]) hx hb (kn_dec tX9_digits 12 rfl) rfl hl (by decide) rfl (fun ls hl => ?_)
    refine lv_iconst (v := (0)) hx hb (kn_dec tX9_digits 13 rfl) (by decide) ?_
    refine lv_istore_n (lv' := [(3, .int _), (2, .int _), (0, .ref (ad_m 0)), (1, .int _)]) hx hb (kn_dec tX9_digits 14 rfl) rfl hl (by decide) rfl (fun ls hl => ?_)
    obtain ⟨n5, h⟩ := h
    exact wX9_digits_L25 X n5 _ _ _ _ _ _ _  I (lv_sub hl [2, 3, 1, 0] rfl) h
  · have h := h.2 c3
    refine lv_aload_n hx hb (kn_dec tX9_digits 3 rfl) rfl (lv_at hl 0 rfl) ?_
    refine lv_iconst (v := (0)) hx hb (kn_dec tX9_digits 4 rfl) (by decide) ?_
    refine lv_aload_n hx hb (kn_dec tX9_digits 5 rfl) rfl (lv_at hl 0 rfl) ?_
    refine kw_geti hx hb hts inX9 hown hK I 0 rfl rfl 31 (by decide) rfl (hts _ q4_231) (kn_dec tX9_digits 6 rfl) ?_
    refine kw_callv (wc := [(kModel, ad_m, _)]) (wr := []) I hA [0] [] rfl rfl (by decide) (by decide) (kn_runV (As := [.int _, .int _]) S0 hK hZ hA I ((ctX9_fails h).met _) (kn_cwV 2 hts q5_214 q5_216 q0_36 q1_10 q5_217 rfl rfl (by decide +kernel) ⟨(Nat.le_of_ble_eq_true rfl), (Nat.le_of_ble_eq_true rfl)⟩) [0] rfl (by decide) 0 rfl rfl rfl rfl hl.1 rfl (Nat.le_of_ble_eq_true rfl) (kn_dec tX9_digits 7 rfl) ⟨(Nat.le_of_ble_eq_true rfl), (Nat.le_of_ble_eq_true rfl)⟩) (fun u7 H locs h I => ?_)
    have I : kn_I D tc (kn_A _ s.heap.size) s.heap [(kModel, ad_m, _)] _ _ := I
    refine lv_iconst (v := (0)) hx hb (kn_dec tX9_digits 8 rfl) (by decide) ?_
    exact kw_iret hx hb hr hlocks I _ rfl h (kn_dec tX9_digits 9 rfl)

end
