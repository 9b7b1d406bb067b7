/-! 996: the law's loop -/
theorem lw_le6 {i L : Nat} (hi : i ≤ 3072) (hL : L ≤ 3072) (h : ¬ (nI L - 6) < nI i) : i + 6 ≤ L := by
  have h2 : (nI i).toInt ≤ (nI L - 6).toInt := by
    have h3 : ¬ (nI L - 6).toInt < (nI i).toInt := fun y => h (Int32.lt_iff_toInt_lt.mpr y)
    omega
  have e6 : (6 : Int32) = nI 6 := by decide
  have e : (nI L - nI 6).toInt = (L : Int) - 6 := pk_sub_toInt (a := L) (b := 6) (by omega) (by omega)
  rw [e6, e, nI_toInt (by omega)] at h2
  omega
set_option maxRecDepth 100000 in
set_option maxHeartbeats 4000000 in
theorem law_switch {p : Program} {l : Launch} {e : Env} {s : State} {m : MethodId} {below : List Frame} {meth : Method} {c : Code} {H : Heap} {locs : List Loc} {cs ss : Nat} {Q : State → Prop} {ls : Array Slot} {D : va_G} {tc : Nat → ClassId} {Z : (Nat → Nat) × (Nat → Nat)} {A : Nat → Prop} {b bt bm L i0 : Nat} {xs : Nat → Int32} {x : Int32} (X : LX p s m c D tc Z A b L xs) (hi : i0 + 6 ≤ L) (hl : lv_has ls 4 [(0, .ref b), (1, .ref bt), (2, .ref bm), (3, .int (nI i0))]) (h : LI D tc A s.heap bt bm H locs) (hc : cs + 200 ≤ room_1.cells) (hs : ss + 1000 ≤ room_1.slots) (next : ∀ (H1 : Heap) (locs1 : List Loc), LI D tc A s.heap bt bm H1 locs1 → W p l e room_1 s m #[Value.ref b] below meth c H1 locs1 (cs + 200) (ss + 1000) Q (F0 m 1076 ls [])) : W p l e room_1 s m #[Value.ref b] below meth c H locs cs ss Q (F0 m 33 ls [.int x]) := by
  have hx := X.1.1
  have hb := X.1.2.1
  rcases Classical.em (x = (0 : Int32)) with c0 | c0
  · refine lv_tableIn (off := 151) (tgt := 184) hx hb (kn_dec tL_law_t0 21 rfl) (by rw [c0]; decide) (by rw [c0]; decide) (by rw [c0]; rfl) (by decide) ?_
    exact lc_feed X hi hl h hc hs next
  rcases Classical.em (x = (1 : Int32)) with c1 | c1
  · refine lv_tableIn (off := 214) (tgt := 247) hx hb (kn_dec tL_law_t0 21 rfl) (by rw [c1]; decide) (by rw [c1]; decide) (by rw [c1]; rfl) (by decide) ?_
    exact lc_end X hi hl h hc hs next
  rcases Classical.em (x = (2 : Int32)) with c2 | c2
  · refine lv_tableIn (off := 237) (tgt := 270) hx hb (kn_dec tL_law_t0 21 rfl) (by rw [c2]; decide) (by rw [c2]; decide) (by rw [c2]; rfl) (by decide) ?_
    exact lc_hill X hi hl h hc hs next
  rcases Classical.em (x = (3 : Int32)) with c3 | c3
  · refine lv_tableIn (off := 250) (tgt := 283) hx hb (kn_dec tL_law_t0 21 rfl) (by rw [c3]; decide) (by rw [c3]; decide) (by rw [c3]; rfl) (by decide) ?_
    exact lc_rule X hi hl h hc hs next
  rcases Classical.em (x = (4 : Int32)) with c4 | c4
  · refine lv_tableIn (off := 263) (tgt := 296) hx hb (kn_dec tL_law_t0 21 rfl) (by rw [c4]; decide) (by rw [c4]; decide) (by rw [c4]; rfl) (by decide) ?_
    exact lc_force X hi hl h hc hs next
  rcases Classical.em (x = (5 : Int32)) with c5 | c5
  · refine lv_tableIn (off := 286) (tgt := 319) hx hb (kn_dec tL_law_t0 21 rfl) (by rw [c5]; decide) (by rw [c5]; decide) (by rw [c5]; rfl) (by decide) ?_
    exact lc_stone X hi hl h hc hs next
  rcases Classical.em (x = (6 : Int32)) with c6 | c6
  · refine lv_tableIn (off := 319) (tgt := 352) hx hb (kn_dec tL_law_t0 21 rfl) (by rw [c6]; decide) (by rw [c6]; decide) (by rw [c6]; rfl) (by decide) ?_
    exact lc_seeker X hi hl h hc hs next
  rcases Classical.em (x = (7 : Int32)) with c7 | c7
  · refine lv_tableIn (off := 352) (tgt := 385) hx hb (kn_dec tL_law_t0 21 rfl) (by rw [c7]; decide) (by rw [c7]; decide) (by rw [c7]; rfl) (by decide) ?_
    exact lc_thing X hi hl h hc hs next
  rcases Classical.em (x = (8 : Int32)) with c8 | c8
  · refine lv_tableIn (off := 375) (tgt := 408) hx hb (kn_dec tL_law_t0 21 rfl) (by rw [c8]; decide) (by rw [c8]; decide) (by rw [c8]; rfl) (by decide) ?_
    exact lc_day X hi hl h hc hs next
  rcases Classical.em (x = (9 : Int32)) with c9 | c9
  · refine lv_tableIn (off := 388) (tgt := 421) hx hb (kn_dec tL_law_t0 21 rfl) (by rw [c9]; decide) (by rw [c9]; decide) (by rw [c9]; rfl) (by decide) ?_
    exact lc_hide X hi hl h hc hs next
  rcases Classical.em (x = (10 : Int32)) with c10 | c10
  · refine lv_tableIn (off := 411) (tgt := 444) hx hb (kn_dec tL_law_t0 21 rfl) (by rw [c10]; decide) (by rw [c10]; decide) (by rw [c10]; rfl) (by decide) ?_
    exact lc_rest X hi hl h hc hs next
  rcases Classical.em (x = (11 : Int32)) with c11 | c11
  · refine lv_tableIn (off := 434) (tgt := 467) hx hb (kn_dec tL_law_t0 21 rfl) (by rw [c11]; decide) (by rw [c11]; decide) (by rw [c11]; rfl) (by decide) ?_
    exact lc_figure X hi hl h hc hs next
  rcases Classical.em (x = (12 : Int32)) with c12 | c12
  · refine lv_tableIn (off := 457) (tgt := 490) hx hb (kn_dec tL_law_t0 21 rfl) (by rw [c12]; decide) (by rw [c12]; decide) (by rw [c12]; rfl) (by decide) ?_
    exact lc_forget X hi hl h hc hs next
  rcases Classical.em (x = (13 : Int32)) with c13 | c13
  · refine lv_tableIn (off := 480) (tgt := 513) hx hb (kn_dec tL_law_t0 21 rfl) (by rw [c13]; decide) (by rw [c13]; decide) (by rw [c13]; rfl) (by decide) ?_
    exact lc_undo X hi hl h hc hs next
  rcases Classical.em (x = (14 : Int32)) with c14 | c14
  · refine lv_tableIn (off := 493) (tgt := 526) hx hb (kn_dec tL_law_t0 21 rfl) (by rw [c14]; decide) (by rw [c14]; decide) (by rw [c14]; rfl) (by decide) ?_
    exact lc_ahead X hi hl h hc hs next
  rcases Classical.em (x = (15 : Int32)) with c15 | c15
  · refine lv_tableIn (off := 536) (tgt := 569) hx hb (kn_dec tL_law_t0 21 rfl) (by rw [c15]; decide) (by rw [c15]; decide) (by rw [c15]; rfl) (by decide) ?_
    exact lc_today X hi hl h hc hs next
  rcases Classical.em (x = (16 : Int32)) with c16 | c16
  · refine lv_tableIn (off := 569) (tgt := 602) hx hb (kn_dec tL_law_t0 21 rfl) (by rw [c16]; decide) (by rw [c16]; decide) (by rw [c16]; rfl) (by decide) ?_
    exact lc_first X hi hl h hc hs next
  rcases Classical.em (x = (17 : Int32)) with c17 | c17
  · refine lv_tableIn (off := 592) (tgt := 625) hx hb (kn_dec tL_law_t0 21 rfl) (by rw [c17]; decide) (by rw [c17]; decide) (by rw [c17]; rfl) (by decide) ?_
    exact lc_hiding X hi hl h hc hs next
  rcases Classical.em (x = (18 : Int32)) with c18 | c18
  · refine lv_tableIn (off := 625) (tgt := 658) hx hb (kn_dec tL_law_t0 21 rfl) (by rw [c18]; decide) (by rw [c18]; decide) (by rw [c18]; rfl) (by decide) ?_
    exact lc_order X hi hl h hc hs next
  rcases Classical.em (x = (19 : Int32)) with c19 | c19
  · refine lv_tableIn (off := 658) (tgt := 691) hx hb (kn_dec tL_law_t0 21 rfl) (by rw [c19]; decide) (by rw [c19]; decide) (by rw [c19]; rfl) (by decide) ?_
    exact lc_mean X hi hl h hc hs next
  rcases Classical.em (x = (20 : Int32)) with c20 | c20
  · refine lv_tableIn (off := 691) (tgt := 724) hx hb (kn_dec tL_law_t0 21 rfl) (by rw [c20]; decide) (by rw [c20]; decide) (by rw [c20]; rfl) (by decide) ?_
    exact lc_gone X hi hl h hc hs next
  rcases Classical.em (x = (21 : Int32)) with c21 | c21
  · refine lv_tableIn (off := 714) (tgt := 747) hx hb (kn_dec tL_law_t0 21 rfl) (by rw [c21]; decide) (by rw [c21]; decide) (by rw [c21]; rfl) (by decide) ?_
    exact lc_hint X hi hl h hc hs next
  rcases Classical.em (x = (22 : Int32)) with c22 | c22
  · refine lv_tableIn (off := 737) (tgt := 770) hx hb (kn_dec tL_law_t0 21 rfl) (by rw [c22]; decide) (by rw [c22]; decide) (by rw [c22]; rfl) (by decide) ?_
    exact lc_worth X hi hl h hc hs next
  rcases Classical.em (x = (23 : Int32)) with c23 | c23
  · refine lv_tableIn (off := 760) (tgt := 793) hx hb (kn_dec tL_law_t0 21 rfl) (by rw [c23]; decide) (by rw [c23]; decide) (by rw [c23]; rfl) (by decide) ?_
    exact lc_wanders X hi hl h hc hs next
  rcases Classical.em (x = (24 : Int32)) with c24 | c24
  · refine lv_tableIn (off := 783) (tgt := 816) hx hb (kn_dec tL_law_t0 21 rfl) (by rw [c24]; decide) (by rw [c24]; decide) (by rw [c24]; rfl) (by decide) ?_
    exact lc_shows X hi hl h hc hs next
  rcases Classical.em (x = (25 : Int32)) with c25 | c25
  · refine lv_tableIn (off := 806) (tgt := 839) hx hb (kn_dec tL_law_t0 21 rfl) (by rw [c25]; decide) (by rw [c25]; decide) (by rw [c25]; rfl) (by decide) ?_
    exact lc_name X hi hl h hc hs next
  rcases Classical.em (x = (26 : Int32)) with c26 | c26
  · refine lv_tableIn (off := 839) (tgt := 872) hx hb (kn_dec tL_law_t0 21 rfl) (by rw [c26]; decide) (by rw [c26]; decide) (by rw [c26]; rfl) (by decide) ?_
    exact lc_ruled X hi hl h hc hs next
  rcases Classical.em (x = (27 : Int32)) with c27 | c27
  · refine lv_tableIn (off := 862) (tgt := 895) hx hb (kn_dec tL_law_t0 21 rfl) (by rw [c27]; decide) (by rw [c27]; decide) (by rw [c27]; rfl) (by decide) ?_
    exact lc_ask X hi hl h hc hs next
  rcases Classical.em (x = (28 : Int32)) with c28 | c28
  · refine lv_tableIn (off := 885) (tgt := 918) hx hb (kn_dec tL_law_t0 21 rfl) (by rw [c28]; decide) (by rw [c28]; decide) (by rw [c28]; rfl) (by decide) ?_
    exact lc_forged X hi hl h hc hs next
  rcases Classical.em (x = (29 : Int32)) with c29 | c29
  · refine lv_tableIn (off := 898) (tgt := 931) hx hb (kn_dec tL_law_t0 21 rfl) (by rw [c29]; decide) (by rw [c29]; decide) (by rw [c29]; rfl) (by decide) ?_
    exact lc_seed X hi hl h hc hs next
  rcases Classical.em (x = (30 : Int32)) with c30 | c30
  · refine lv_tableIn (off := 921) (tgt := 954) hx hb (kn_dec tL_law_t0 21 rfl) (by rw [c30]; decide) (by rw [c30]; decide) (by rw [c30]; rfl) (by decide) ?_
    exact lc_years X hi hl h hc hs next
  rcases Classical.em (x = (31 : Int32)) with c31 | c31
  · refine lv_tableIn (off := 974) (tgt := 1007) hx hb (kn_dec tL_law_t0 21 rfl) (by rw [c31]; decide) (by rw [c31]; decide) (by rw [c31]; rfl) (by decide) ?_
    exact lc_count X hi hl h hc hs next
  rcases Classical.em (x = (32 : Int32)) with c32 | c32
  · refine lv_tableIn (off := 997) (tgt := 1030) hx hb (kn_dec tL_law_t0 21 rfl) (by rw [c32]; decide) (by rw [c32]; decide) (by rw [c32]; rfl) (by decide) ?_
    exact lc_image X hi hl h hc hs next
  rcases Classical.em (x = (33 : Int32)) with c33 | c33
  · refine lv_tableIn (off := 1020) (tgt := 1053) hx hb (kn_dec tL_law_t0 21 rfl) (by rw [c33]; decide) (by rw [c33]; decide) (by rw [c33]; rfl) (by decide) ?_
    exact lc_back X hi hl h hc hs next
  refine lv_tableOut (tgt := 1076) hx hb (kn_dec tL_law_t0 21 rfl) (by have z0 := kn_nei (k := 0) c0 (by decide); have z1 := kn_nei (k := 1) c1 (by decide); have z2 := kn_nei (k := 2) c2 (by decide); have z3 := kn_nei (k := 3) c3 (by decide); have z4 := kn_nei (k := 4) c4 (by decide); have z5 := kn_nei (k := 5) c5 (by decide); have z6 := kn_nei (k := 6) c6 (by decide); have z7 := kn_nei (k := 7) c7 (by decide); have z8 := kn_nei (k := 8) c8 (by decide); have z9 := kn_nei (k := 9) c9 (by decide); have z10 := kn_nei (k := 10) c10 (by decide); have z11 := kn_nei (k := 11) c11 (by decide); have z12 := kn_nei (k := 12) c12 (by decide); have z13 := kn_nei (k := 13) c13 (by decide); have z14 := kn_nei (k := 14) c14 (by decide); have z15 := kn_nei (k := 15) c15 (by decide); have z16 := kn_nei (k := 16) c16 (by decide); have z17 := kn_nei (k := 17) c17 (by decide); have z18 := kn_nei (k := 18) c18 (by decide); have z19 := kn_nei (k := 19) c19 (by decide); have z20 := kn_nei (k := 20) c20 (by decide); have z21 := kn_nei (k := 21) c21 (by decide); have z22 := kn_nei (k := 22) c22 (by decide); have z23 := kn_nei (k := 23) c23 (by decide); have z24 := kn_nei (k := 24) c24 (by decide); have z25 := kn_nei (k := 25) c25 (by decide); have z26 := kn_nei (k := 26) c26 (by decide); have z27 := kn_nei (k := 27) c27 (by decide); have z28 := kn_nei (k := 28) c28 (by decide); have z29 := kn_nei (k := 29) c29 (by decide); have z30 := kn_nei (k := 30) c30 (by decide); have z31 := kn_nei (k := 31) c31 (by decide); have z32 := kn_nei (k := 32) c32 (by decide); have z33 := kn_nei (k := 33) c33 (by decide); omega) (by decide) ?_
  exact kn_widen (k := cs + 200) (n := ss + 1000) (by omega) (by omega) (next _ _ h)
set_option maxRecDepth 100000 in
set_option maxHeartbeats 4000000 in
theorem law_loop {p : Program} {l : Launch} {e : Env} {s : State} {m : MethodId} {below : List Frame} {meth : Method} {c : Code} {D : va_G} {tc : Nat → ClassId} {Z : (Nat → Nat) × (Nat → Nat)} {b bt bm L : Nat} {xs : Nat → Int32} (X : LX p s m c D tc Z (fun q => s.heap.size ≤ q) b L xs) (hr : meth.sig.returnType = ret) (hlocks : meth.locks = false) :
    ∀ (n i cs ss : Nat), i ≤ L → L < i + 6 * n → cs + 200 * n ≤ room_1.cells → ss + 1000 * n ≤ room_1.slots → ∀ (H : Heap) (locs : List Loc) (ls : Array Slot), LI D tc (fun q => s.heap.size ≤ q) s.heap bt bm H locs → lv_has ls 4 [(0, .ref b), (1, .ref bt), (2, .ref bm), (3, .int (nI i))] → W p l e room_1 s m #[Value.ref b] below meth c H locs cs ss (lw_Z below #[Value.ref b] s) (F0 m 18 ls []) := by
  obtain ⟨S0, hK, hZ, hA, hX, hbl, hbA, hL3⟩ := id X
  obtain ⟨hx, hb, hml, hown, hts⟩ := id S0
  intro n
  induction n with
  | zero =>
    intro i cs ss h1 h2
    exact absurd h2 (by omega)
  | succ n ih =>
    intro i cs ss hi hin hc hs H locs ls h hl
    obtain ⟨w, I⟩ := LI_I h
    refine lv_iload_n hx hb (kn_dec tL_law_t0 10 rfl) rfl (lv_at hl 3 rfl) ?_
    refine lv_aload_n hx hb (kn_dec tL_law_t0 11 rfl) rfl (lv_at hl 0 rfl) ?_
    refine va_slen hx hb hX hbl hbA I.2.2 (kn_dec tL_law_t0 12 rfl) ?_
    refine lv_bipush (v := (6)) hx hb (kn_dec tL_law_t0 13 rfl) (by decide) ?_
    refine lv_isub hx hb (kn_dec tL_law_t0 14 rfl) ?_
    refine lv_icmp_gt (tgt := 1082) hx hb (kn_dec tL_law_t0 15 rfl) (by decide) (fun c1 => ?_) (fun c1 => ?_)
    · refine lv_iconst (v := 1) hx hb (kn_dec tL_law_t11 52 rfl) (by decide) ?_
      refine va_forget (fun q hq => I.2.2.2.2 q hq) ?_
      refine W.widen (k := room_1.cells) (n := room_1.slots) (by omega) (by omega) ?_
      exact lw_ret hx hb hr hlocks (kn_dec tL_law_t11 53 rfl)
    · have h6 : i + 6 ≤ L := lw_le6 (by omega) (by omega) c1
      refine lv_aload_n hx hb (kn_dec tL_law_t0 16 rfl) rfl (lv_at hl 0 rfl) ?_
      refine lv_iload_n hx hb (kn_dec tL_law_t0 17 rfl) rfl (lv_at hl 3 rfl) ?_
      refine va_sld hx hb hX hbl hbA I.2.2 (vp_in_nI (show i < L by omega) (by omega)) (kn_dec tL_law_t0 18 rfl) ?_
      refine lv_bipush (v := (63)) hx hb (kn_dec tL_law_t0 19 rfl) (by decide) ?_
      refine lv_iand hx hb (kn_dec tL_law_t0 20 rfl) ?_
      refine law_switch X h6 hl h (by omega) (by omega) (fun H1 locs1 h1 => ?_)
      refine lv_iinc (v := nI (i + 6)) (lv' := [(3, .int (nI (i + 6))), (0, .ref b), (1, .ref bt), (2, .ref bm)]) hx hb (kn_dec tL_law_t11 50 rfl) hl (k := 3) rfl (by rw [show (Int32.ofInt 6) = nI 6 by decide, nI_add]) (by decide) rfl (fun ls1 hl1 => ?_)
      refine lv_goto (tgt := 18) hx hb (kn_dec tL_law_t11 51 rfl) (by decide) ?_
      exact ih (i + 6) (cs + 200) (ss + 1000) h6 (by omega) (by omega) (by omega) H1 locs1 ls1 h1 (lv_sub hl1 [1, 2, 3, 0] rfl)
