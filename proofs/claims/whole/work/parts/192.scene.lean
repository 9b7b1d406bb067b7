theorem kn_pool_push {k : KD} {n : Nat} {ad : Nat → Nat → Nat} {u : Nat → Nat} {v : OV} : kn_pool k n ad (fun _ => v) ++ [(k, u, v)] = kn_pool k (n + 1) (va_up ad n u) (fun _ => v) := by
  unfold kn_pool
  rw [List.range_succ, List.map_append]
  congr 1
  · refine List.map_congr_left (fun j hj => ?_)
    have hne : j ≠ n := by
      have := List.mem_range.mp hj
      omega
    show (k, ad j, v) = (k, va_up ad n u j, v)
    rw [show va_up ad n u j = ad j from if_neg hne]
  · show [(k, u, v)] = [(k, va_up ad n u n, v)]
    rw [show va_up ad n u n = u from if_pos rfl]
theorem kn_q_cong {ad ad' : Nat → Nat} {k k' i : Nat} (h : ad (1000 + 200 * i + k) = ad' (1000 + 200 * i + k')) : kn_q ad k i = kn_q ad' k' i := by
  unfold kn_q
  rw [h]
theorem kArr4_sm : kn_sm (kArr 4 20) := ⟨(fun o h => by cases (show (none : Option (Nat × List Nat)) = some o from h)), by decide⟩

abbrev rmX5_init : Room := { frames := 3, cells := 160, slots := 979, locals := 200 }
section
variable {p : Program} {l : Launch} {e : Env} {s : State} {m : MethodId} {args : Array Value} {below : List Frame} {meth : Method} {c : Code} {D : va_G} {tc : Nat → ClassId} {Z : (Nat → Nat) × (Nat → Nat)} {w0 : List CH}
set_option maxRecDepth 100000 in
set_option maxHeartbeats 4000000 in
theorem wX5_init_loop {Q : State → Prop} (X : kn_X p s m args meth c cX5_init 2 none RX5 kn_all D tc Z (kn_A w0 s.heap.size)) {h0 : Nat} {adE : Nat → Nat} {vE : OV} {T0 : List CH} (hE0 : adE 0 = h0)
    (hend : ∀ (adP : Nat → Nat) (adS : Nat → Nat → Nat) (H : Heap) (locs : List Loc) (ls : Array Slot), kn_o (adE (4 + 1)) = some (adP (0 + 1)) → (∀ j, j < 20 → kn_q adP 0 j = some (adS j 0)) → kn_I D tc (kn_A w0 s.heap.size) s.heap ([(kRawX5, adE, vE), (kArr 4 20, adP, kn_v0)] ++ (T0 ++ kn_pool kState 20 adS (fun _ => v0X6))) H locs → lv_has ls 2 [(0, .ref h0)] → W p l e rmX5_init s m args below meth c H locs 160 979 Q (F0 m 83 ls [])) :
    ∀ (n i cs ss : Nat), i + n = 20 → cs + 7 * n = 160 → ss + 41 * n = 979 → ∀ (adP : Nat → Nat) (adS : Nat → Nat → Nat) (H : Heap) (locs : List Loc) (ls : Array Slot), kn_o (adE (4 + 1)) = some (adP (0 + 1)) → (∀ j, j < i → kn_q adP 0 j = some (adS j 0)) → kn_I D tc (kn_A w0 s.heap.size) s.heap ([(kRawX5, adE, vE), (kArr 4 20, adP, kn_v0)] ++ (T0 ++ kn_pool kState i adS (fun _ => v0X6))) H locs → lv_has ls 2 [(1, .int (nI i)), (0, .ref h0)] → W p l e rmX5_init s m args below meth c H locs cs ss Q (F0 m 58 ls []) := by
  obtain ⟨S0, hr, hlocks, hK, hZ, hA⟩ := id X
  obtain ⟨hx, hb, hml, hown, hts⟩ := id S0
  intro n
  induction n with
  | zero =>
    intro i cs ss hi hc hs adP adS H locs ls h4 hq I hl
    have ei : i = 20 := by omega
    have ec : cs = 160 := by omega
    have es : ss = 979 := by omega
    subst ei
    subst ec
    subst es
    refine lv_iload_n hx hb (kn_dec tX5_init 29 rfl) rfl (lv_at hl 0 rfl) ?_
    refine lv_bipush (v := (20)) hx hb (kn_dec tX5_init 30 rfl) (by decide) ?_
    refine lv_icmp_ge (tgt := 83) hx hb (kn_dec tX5_init 31 rfl) (by decide) (fun c1 => ?_) (fun c1 => ?_)
    · exact hend adP adS H locs ls h4 hq I (lv_sub hl [1] rfl)
    · exact absurd (show (20 : Int32) ≤ nI 20 by decide) c1
  | succ n ih =>
    intro i cs ss hi hc hs adP adS H locs ls h4 hq I hl
    have hlt : i < 20 := by omega
    refine lv_iload_n hx hb (kn_dec tX5_init 29 rfl) rfl (lv_at hl 0 rfl) ?_
    refine lv_bipush (v := (20)) hx hb (kn_dec tX5_init 30 rfl) (by decide) ?_
    refine lv_icmp_ge (tgt := 83) hx hb (kn_dec tX5_init 31 rfl) (by decide) (fun c1 => ?_) (fun c1 => ?_)
    · exact absurd c1 (show ¬ (20 : Int32) ≤ nI i from nI_ge (a := i) (b := 20) hlt (by decide))
    · refine lv_aload_n hx hb (kn_dec tX5_init 32 rfl) rfl (lv_at hl 1 rfl) ?_
      rw [← hE0]
      refine kw_geto (ad := adE) hx hb hts inX5 hown hK I 0 rfl rfl 4 (by decide) rfl (hts _ q2_35) (kn_dec tX5_init 33 rfl) h4 ?_
      refine lv_iload_n hx hb (kn_dec tX5_init 34 rfl) rfl (lv_at hl 0 rfl) ?_
      refine kw_new (ci := 6) (fl := [0, 0, 0, 2, 2, 2, 2, 2, 2]) S0 hK hA I inX6 tyX6 tyX6_ok q1_213 q1_214 q1_8 rfl dflX6 (by show cs + 1 ≤ 160; omega) (by show ss + 9 ≤ 979; omega) (kn_dec tX5_init 35 rfl) (fun q H I => ?_)
      refine lv_dup hx hb (kn_dec tX5_init 36 rfl) rfl ?_
      refine kw_initN S0 hK hZ hA I ctX6_init 6 rfl q1_8 q1_217 q1_216 rfl rfl (by decide +kernel) rfl ⟨Nat.le_of_ble_eq_true rfl, Nat.le_of_ble_eq_true rfl⟩ hl.1 (Nat.le_of_ble_eq_true rfl) (kn_dec tX5_init 37 rfl) ⟨by show cs + 1 + 6 ≤ 160; omega, by show ss + 9 + 32 ≤ 979; omega⟩ (fun u H locs hu I => ?_)
      rw [← hu]
      have I : kn_I D tc (kn_A w0 s.heap.size) s.heap ([(kState, u, v0X6)] ++ ([(kRawX5, adE, vE), (kArr 4 20, adP, kn_v0)] ++ (T0 ++ kn_pool kState i adS (fun _ => v0X6)))) H locs := I.perm List.perm_append_comm
      have hin : vp_in (nI i) 20 := vp_in_nI hlt (by decide)
      refine kw_qast (ad := adP) hx hb hK I 2 rfl kArr4_sm 0 0 20 (List.mem_of_getElem? (i := 0) rfl) (by decide) (r := (RX6, TX6, 9)) rfl 0 rfl rfl hin (kn_dec tX5_init 38 rfl) (fun H locs I => ?_)
      rw [nI_clamp (by omega)] at I
      have I : kn_I D tc (kn_A w0 s.heap.size) s.heap ([(kState, u, v0X6)] ++ ([(kRawX5, adE, vE), (kArr 4 20, kn_uq adP 0 i (u 0), kn_v0)] ++ (T0 ++ kn_pool kState i adS (fun _ => v0X6)))) H locs := I
      have I := I.perm List.perm_append_comm
      rw [List.append_assoc, List.append_assoc, kn_pool_push] at I
      refine kw_iinc (lvf := fun y => [(1, .int y), (0, .ref h0)]) (nv := (1)) hx hb (kn_dec tX5_init 39 rfl) hl (k := 0) rfl (by decide) (by decide) (fun _ => rfl) (fun y ey ls hl => ?_)
      refine lv_goto (tgt := 58) hx hb (kn_dec tX5_init 40 rfl) (by decide) ?_
      rw [ey, nI_1] at hl
      refine ih (i + 1) _ _ (by omega) (by omega) (by omega) (kn_uq adP 0 i (u 0)) (va_up adS i u) H locs ls (by rw [kn_uq_low (by omega)]; exact h4) (fun j hj => ?_) I hl
      rw [kn_uq_q]
      by_cases e : j = i
      · subst e
        show (if j = j then some (u 0) else _) = some ((if j = j then u else adS j) 0)
        rw [if_pos rfl, if_pos rfl]
      · show (if j = i then some (u 0) else kn_q adP 0 j) = some ((if j = i then u else adS j) 0)
        rw [if_neg e, if_neg e]
        exact hq j (by omega)
end

def v0X5 : OV := si kn_v0 1 (-1)
set_option maxRecDepth 100000 in
set_option maxHeartbeats 4000000 in
theorem ctX5_init {l : Launch} {D : va_G} {tc : Nat → ClassId} {Z : (Nat → Nat) × (Nat → Nat)} {h0 : Nat} : CTv l D tc Z yX5_init (Cond.code yX5_init cX5_init 2 none :: kn_all) rmX5_init 160 979 [.ref h0] [(kRawX5, kn_ad0 h0, kn_v0)] (fun (u : (Nat → Nat) × (Nat → Nat) × (Nat → Nat) × (Nat → Nat → Nat)) => [(kScene, u.1, v0X5), (kHill, u.2.1, v0X0), (kState, u.2.2.1, v0X6)] ++ kn_pool kState 20 u.2.2.2 (fun _ => v0X6)) (fun (u : (Nat → Nat) × (Nat → Nat) × (Nat → Nat) × (Nat → Nat → Nat)) => u.1 0 = h0 ∧ u.1 (0 + 1) = u.2.1 0 ∧ u.1 (3 + 1) = u.2.2.1 0 ∧ ∀ j, j < 20 → kn_q u.1 4 j = some (u.2.2.2 j 0)) := by
  refine kn_ofv (cc := cX5_init) (nL := 2) (ret := none) (lv := [(0, .ref h0)]) (by decide) (Nat.le_of_ble_eq_true rfl) rfl (fun p e s m below meth c ls X I hl hin9 => ?_)
  obtain ⟨S0, hr, hlocks, hK, hZ, hA⟩ := id X
  obtain ⟨hx, hb, hml, hown, hts⟩ := id S0
  have hin : meth.name = "<init>" := hin9 rfl
  refine lv_aload_n hx hb (kn_dec tX5_init 0 rfl) rfl (lv_at hl 0 rfl) ?_
  refine W.objInit hx hb hown (hts _ q1_111) (hts _ q1_24) (hts _ q1_25) rfl (by rw [hml]; exact hl.1) rfl (kn_dec tX5_init 1 rfl) (Nat.le_of_ble_eq_true rfl) (Nat.le_of_ble_eq_true rfl) ?_
  refine W.eq (g2 := F0 m 4 ls []) rfl ?_
  refine lv_aload_n hx hb (kn_dec tX5_init 2 rfl) rfl (lv_at hl 0 rfl) ?_
  refine kw_new (ci := 0) (fl := [0, 0, 0, 0, 0, 2, 2, 2, 0, 0, 2, 0, 2, 2, 2, 2, 0, 2]) S0 hK hA I inX0 tyX0 tyX0_ok q1_112 q1_113 q1_7 rfl dflX0 (Nat.le_of_ble_eq_true rfl) (Nat.le_of_ble_eq_true rfl) (kn_dec tX5_init 3 rfl) (fun q5 H I => ?_)
  refine lv_dup hx hb (kn_dec tX5_init 4 rfl) rfl ?_
  refine kw_initN S0 hK hZ hA I ctX0_init 5 rfl q1_7 q1_116 q1_115 rfl rfl (by decide +kernel) rfl ⟨(Nat.le_of_ble_eq_true rfl), (Nat.le_of_ble_eq_true rfl)⟩ hl.1 (Nat.le_of_ble_eq_true rfl) (kn_dec tX5_init 5 rfl) ⟨(Nat.le_of_ble_eq_true rfl), (Nat.le_of_ble_eq_true rfl)⟩ (fun u9 H locs hp9 I => ?_)
  have I : kn_I D tc _ s.heap [(kRawX5, (kn_ad0 h0), kn_v0), (kHill, u9, v0X0)] _ _ := I
  refine kw_putN (ad := (kn_ad0 h0)) hx hb hts inX5 tyX5 tyX5_ok nmX5 hown hK I 0 rfl rfl 0 (by decide) rfl (hts _ q2_27) rfl rfl rfl (kn_dec tX5_init 6 rfl) (fun H locs I => ?_)
  have I : kn_I D tc _ s.heap [(kRawX5, (kn_up (kn_ad0 h0) 0 (q5 + 1)), kn_v0), (kHill, u9, v0X0)] _ _ := I
  refine lv_aload_n hx hb (kn_dec tX5_init 7 rfl) rfl (lv_at hl 0 rfl) ?_
  refine lv_iconst (v := (-1)) hx hb (kn_dec tX5_init 8 rfl) (by decide) ?_
  refine kw_puti (ad := (kn_up (kn_ad0 h0) 0 (q5 + 1))) hx hb hts inX5 tyX5 tyX5_ok nmX5 hown hK I 0 rfl rfl 1 (by decide) rfl (hts _ q2_29) rfl rfl rfl (kn_dec tX5_init 9 rfl) (fun v17 ev17 H locs I => ?_)
  have I : kn_I D tc _ s.heap [(kRawX5, (kn_up (kn_ad0 h0) 0 (q5 + 1)), v17), (kHill, u9, v0X0)] _ _ := I
  refine lv_aload_n hx hb (kn_dec tX5_init 10 rfl) rfl (lv_at hl 0 rfl) ?_
  refine kw_new (ci := 6) (fl := [0, 0, 0, 2, 2, 2, 2, 2, 2]) S0 hK hA I inX6 tyX6 tyX6_ok q1_213 q1_214 q1_8 rfl dflX6 (Nat.le_of_ble_eq_true rfl) (Nat.le_of_ble_eq_true rfl) (kn_dec tX5_init 11 rfl) (fun q21 H I => ?_)
  refine lv_dup hx hb (kn_dec tX5_init 12 rfl) rfl ?_
  refine kw_initN S0 hK hZ hA I ctX6_init 6 rfl q1_8 q1_217 q1_216 rfl rfl (by decide +kernel) rfl ⟨(Nat.le_of_ble_eq_true rfl), (Nat.le_of_ble_eq_true rfl)⟩ hl.1 (Nat.le_of_ble_eq_true rfl) (kn_dec tX5_init 13 rfl) ⟨(Nat.le_of_ble_eq_true rfl), (Nat.le_of_ble_eq_true rfl)⟩ (fun u25 H locs hp25 I => ?_)
  have I : kn_I D tc _ s.heap [(kRawX5, (kn_up (kn_ad0 h0) 0 (q5 + 1)), v17), (kHill, u9, v0X0), (kState, u25, v0X6)] _ _ := I
  refine kw_putF (ad := (kn_up (kn_ad0 h0) 0 (q5 + 1))) hx hb hts inX5 tyX5 tyX5_ok nmX5 hown hK I 0 rfl rfl 3 (by decide) rfl (hts _ q2_33) rfl hin rfl rfl rfl (kn_dec tX5_init 14 rfl) (fun H locs I => ?_)
  have I : kn_I D tc _ s.heap [(kRawX5, (kn_up (kn_up (kn_ad0 h0) 0 (q5 + 1)) 3 (q21 + 1)), v17), (kHill, u9, v0X0), (kState, u25, v0X6)] _ _ := I
  refine lv_aload_n hx hb (kn_dec tX5_init 15 rfl) rfl (lv_at hl 0 rfl) ?_
  refine lv_bipush (v := (20)) hx hb (kn_dec tX5_init 16 rfl) (by decide) ?_
  refine kw_newQ (N' := 20) hx hb hown (hts _ q1_213) (hZ.2.2.2.2.1 _ (List.mem_of_getElem? (i := 0) rfl)) hK hA I 0 rfl (by decide) (by decide) (Nat.le_of_ble_eq_true rfl) (Nat.le_of_ble_eq_true rfl) (Nat.le_of_ble_eq_true rfl) (kn_dec tX5_init 17 rfl) (fun q34 H I => ?_)
  have I : kn_I D tc _ s.heap [(kRawX5, (kn_up (kn_up (kn_ad0 h0) 0 (q5 + 1)) 3 (q21 + 1)), v17), (kHill, u9, v0X0), (kState, u25, v0X6), (kArr 4 20, (kn_ad1 q34), kn_v0)] _ _ := I
  refine kw_putF (ad := (kn_up (kn_up (kn_ad0 h0) 0 (q5 + 1)) 3 (q21 + 1))) hx hb hts inX5 tyX5 tyX5_ok nmX5 hown hK I 0 rfl rfl 4 (by decide) rfl (hts _ q2_35) rfl hin rfl rfl rfl (kn_dec tX5_init 18 rfl) (fun H locs I => ?_)
  have I : kn_I D tc _ s.heap [(kRawX5, (kn_up (kn_up (kn_up (kn_ad0 h0) 0 (q5 + 1)) 3 (q21 + 1)) 4 (q34 + 1)), v17), (kHill, u9, v0X0), (kState, u25, v0X6), (kArr 4 20, (kn_ad1 q34), kn_v0)] _ _ := I
  refine lv_aload_n hx hb (kn_dec tX5_init 19 rfl) rfl (lv_at hl 0 rfl) ?_
  refine lv_bipush (v := (10)) hx hb (kn_dec tX5_init 20 rfl) (by decide) ?_
  refine kw_newI (N' := 10) hx hb (hts _ q1_55) hK hA I (by decide) (by decide) (Nat.le_of_ble_eq_true rfl) (Nat.le_of_ble_eq_true rfl) (Nat.le_of_ble_eq_true rfl) (kn_dec tX5_init 21 rfl) (fun q43 H I => ?_)
  have I : kn_I D tc _ s.heap [(kRawX5, (kn_up (kn_up (kn_up (kn_ad0 h0) 0 (q5 + 1)) 3 (q21 + 1)) 4 (q34 + 1)), v17), (kHill, u9, v0X0), (kState, u25, v0X6), (kArr 4 20, (kn_ad1 q34), kn_v0), (kArr 0 10, (kn_ad1 q43), kn_v0)] _ _ := I
  refine kw_putF (ad := (kn_up (kn_up (kn_up (kn_ad0 h0) 0 (q5 + 1)) 3 (q21 + 1)) 4 (q34 + 1))) hx hb hts inX5 tyX5 tyX5_ok nmX5 hown hK I 0 rfl rfl 8 (by decide) rfl (hts _ q2_41) rfl hin rfl rfl rfl (kn_dec tX5_init 22 rfl) (fun H locs I => ?_)
  have I : kn_I D tc _ s.heap [(kRawX5, (kn_up (kn_up (kn_up (kn_up (kn_ad0 h0) 0 (q5 + 1)) 3 (q21 + 1)) 4 (q34 + 1)) 8 (q43 + 1)), v17), (kHill, u9, v0X0), (kState, u25, v0X6), (kArr 4 20, (kn_ad1 q34), kn_v0), (kArr 0 10, (kn_ad1 q43), kn_v0)] _ _ := I
  refine lv_aload_n hx hb (kn_dec tX5_init 23 rfl) rfl (lv_at hl 0 rfl) ?_
  refine lv_bipush (v := (10)) hx hb (kn_dec tX5_init 24 rfl) (by decide) ?_
  refine kw_newI (N' := 10) hx hb (hts _ q1_55) hK hA I (by decide) (by decide) (Nat.le_of_ble_eq_true rfl) (Nat.le_of_ble_eq_true rfl) (Nat.le_of_ble_eq_true rfl) (kn_dec tX5_init 25 rfl) (fun q51 H I => ?_)
  have I : kn_I D tc _ s.heap [(kRawX5, (kn_up (kn_up (kn_up (kn_up (kn_ad0 h0) 0 (q5 + 1)) 3 (q21 + 1)) 4 (q34 + 1)) 8 (q43 + 1)), v17), (kHill, u9, v0X0), (kState, u25, v0X6), (kArr 4 20, (kn_ad1 q34), kn_v0), (kArr 0 10, (kn_ad1 q43), kn_v0), (kArr 0 10, (kn_ad1 q51), kn_v0)] _ _ := I
  refine kw_putF (ad := (kn_up (kn_up (kn_up (kn_up (kn_ad0 h0) 0 (q5 + 1)) 3 (q21 + 1)) 4 (q34 + 1)) 8 (q43 + 1))) hx hb hts inX5 tyX5 tyX5_ok nmX5 hown hK I 0 rfl rfl 9 (by decide) rfl (hts _ q2_43) rfl hin rfl rfl rfl (kn_dec tX5_init 26 rfl) (fun H locs I => ?_)
  have I : kn_I D tc _ s.heap [(kRawX5, (kn_up (kn_up (kn_up (kn_up (kn_up (kn_ad0 h0) 0 (q5 + 1)) 3 (q21 + 1)) 4 (q34 + 1)) 8 (q43 + 1)) 9 (q51 + 1)), v17), (kHill, u9, v0X0), (kState, u25, v0X6), (kArr 4 20, (kn_ad1 q34), kn_v0), (kArr 0 10, (kn_ad1 q43), kn_v0), (kArr 0 10, (kn_ad1 q51), kn_v0)] _ _ := I
  subst hp9
  subst hp25
  refine lv_iconst (v := (0)) hx hb (kn_dec tX5_init 27 rfl) (by decide) ?_
  refine lv_istore_n (lv' := [(1, .int 0), (0, .ref h0)]) hx hb (kn_dec tX5_init 28 rfl) rfl hl (by decide) rfl (fun ls hl => ?_)
  have I : kn_I D tc _ s.heap ([(kRawX5, (kn_up (kn_up (kn_up (kn_up (kn_up (kn_ad0 h0) 0 (u9 0 + 1)) 3 (u25 0 + 1)) 4 (q34 + 1)) 8 (q43 + 1)) 9 (q51 + 1)), v17), (kArr 4 20, kn_ad1 q34, kn_v0)] ++ ([(kArr 0 10, kn_ad1 q43, kn_v0), (kArr 0 10, kn_ad1 q51, kn_v0), (kHill, u9, v0X0), (kState, u25, v0X6)] ++ kn_pool kState 0 (fun _ _ => 0) (fun _ => v0X6))) _ _ := I.sub [0, 3, 4, 5, 1, 2] (by decide) rfl
  refine wX5_init_loop X (adE := (kn_up (kn_up (kn_up (kn_up (kn_up (kn_ad0 h0) 0 (u9 0 + 1)) 3 (u25 0 + 1)) 4 (q34 + 1)) 8 (q43 + 1)) 9 (q51 + 1))) (vE := v17) (T0 := [(kArr 0 10, kn_ad1 q43, kn_v0), (kArr 0 10, kn_ad1 q51, kn_v0), (kHill, u9, v0X0), (kState, u25, v0X6)]) rfl (fun adP adS H locs ls h4 hq I hl => ?_) 20 0 _ _ rfl rfl rfl (kn_ad1 q34) (fun _ _ => 0) _ _ _ rfl (fun j hj => absurd hj (Nat.not_lt_zero j)) I hl
  have h5 : adP (0 + 1) = q34 := (Option.some.inj h4).symm
  have e9 : kn_q (fun j => if j = 0 then h0 else if j = 1 then u9 0 else if j = 4 then u25 0 else if j = 5 then q34 else if j = 9 then q43 else if j = 10 then q51 else if j < 1000 then 0 else adP (j - 4)) 4 = kn_q adP 0 := by
    funext i
    refine kn_q_cong ?_
    rw [if_neg (by omega), if_neg (by omega), if_neg (by omega), if_neg (by omega), if_neg (by omega), if_neg (by omega), if_neg (by omega)]
    congr 1
  have I := kn_conv (w' := ([(kScene, (fun j => if j = 0 then h0 else if j = 1 then u9 0 else if j = 4 then u25 0 else if j = 5 then q34 else if j = 9 then q43 else if j = 10 then q51 else if j < 1000 then 0 else adP (j - 4)), v0X5), (kHill, u9, v0X0), (kState, u25, v0X6)] ++ kn_pool kState 20 adS (fun _ => v0X6))) I (by
    rw [kn_flat_app, kn_flat_app, kn_flat_app, ← List.append_assoc]
    congr 1
    show _ = kn_flat tc [(kScene, _, v0X5), (kHill, u9, v0X0), (kState, u25, v0X6)]
    have e8 : kn_ar tc (fun j => if j = 0 then h0 else if j = 1 then u9 0 else if j = 4 then u25 0 else if j = 5 then q34 else if j = 9 then q43 else if j = 10 then q51 else if j < 1000 then 0 else adP (j - 4)) v0X5 (4, 4, 20) = kn_ar tc adP kn_v0 (0, 4, 20) := by
      unfold kn_ar kn_ac
      rw [e9, h5]
      rfl
    subst ev17
    show _ = [kn_oc _ v0X5 _, kn_ar tc (fun j => if j = 0 then h0 else if j = 1 then u9 0 else if j = 4 then u25 0 else if j = 5 then q34 else if j = 9 then q43 else if j = 10 then q51 else if j < 1000 then 0 else adP (j - 4)) v0X5 (4, 4, 20), kn_ar tc _ v0X5 (8, 0, 10), kn_ar tc _ v0X5 (9, 0, 10)] ++ kn_flat tc [(kHill, u9, v0X0), (kState, u25, v0X6)]
    rw [e8]
    rfl)
  exact kw_vret hx hb hr hlocks I ((fun j => if j = 0 then h0 else if j = 1 then u9 0 else if j = 4 then u25 0 else if j = 5 then q34 else if j = 9 then q43 else if j = 10 then q51 else if j < 1000 then 0 else adP (j - 4)), u9, u25, adS) rfl ⟨rfl, rfl, rfl, fun j hj => by rw [e9]; exact hq j hj⟩ (kn_dec tX5_init 41 rfl)
