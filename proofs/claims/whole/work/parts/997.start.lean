/-! 997: the law from its entry -/
set_option maxRecDepth 100000 in
set_option maxHeartbeats 4000000 in
theorem whole_start {p : Program} {e : Env} {s : State} {m : MethodId} {below : List Frame} {meth : Method} {c : Code} (l : Launch) (hflags : l.flags = flags0) {b L : Nat} {xs : Nat → Int32} (hL : L ≤ 3072) (C0 : lw_At p s m meth c b L xs) : W p l e room_1 s m #[Value.ref b] below meth c s.heap [] 0 0 (lw_Z below #[Value.ref b] s) (entryFrame m ([Value.ref b] : List Value).toArray 4) := by
  obtain ⟨hx, hb, hr, hml, hown, hts, hX, hbl, hlocks, hgv⟩ := id C0
  have hF : ∀ c ∈ zF, c.before #[Value.ref b] s = true := flat_of_before _ hgv
  have hA : ∀ q : Nat, s.heap.size ≤ q → (fun q : Nat => s.heap.size ≤ q) q := fun _ h => h
  have hA2 : ∀ a : Nat, a < s.heap.size → ¬ (fun q : Nat => s.heap.size ≤ q) a := fun a h => Nat.not_le.mpr h
  obtain ⟨D, tc, hK⟩ := z_K hts
  obtain ⟨Z, hZ⟩ := z_Z (A := fun q : Nat => s.heap.size ≤ q) hA2 hF hts
  have S0 : CallFix p m c code 4 s #[Value.ref b] kn_all R_law := ⟨hx, hb, hml, hown, fun w h => hts w (kn_sub h)⟩
  have X : LX p s m c D tc Z (fun q => s.heap.size ≤ q) b L xs := ⟨S0, hK, hZ, hA, hX, hbl, hA2 b hbl, hL⟩
  have I : kn_I D tc (fun q => s.heap.size ≤ q) s.heap [] s.heap [] := ⟨fun k q h => by simp [kn_flat] at h, ⟨fun i j p q a h => by simp at h, fun k q h => by simp at h⟩, va_S.rf⟩
  have hl := lv_entry ([.ref b]) (n := 4) (Nat.le_of_ble_eq_true rfl)
  rw [lg_entry_eq]
  generalize (lg_sl ([.ref b]) ++ List.replicate (4 - (lg_sl ([.ref b])).length) Slot.unset).toArray = ls at hl ⊢
  have hl : lv_has ls 4 [(0, .ref b)] := hl
  refine kw_new (ci := 8) (fl := [2, 0, 2, 2, 2, 0, 2, 2, 2, 2, 2, 2]) S0 hK hA I inX8 tyX8 tyX8_ok q1_18 q1_19 q1_1 rfl dflX8 (Nat.le_of_ble_eq_true rfl) (Nat.le_of_ble_eq_true rfl) (kn_dec tL_law_t0 0 rfl) (fun qX8 H I => ?_)
  refine lv_dup hx hb (kn_dec tL_law_t0 1 rfl) rfl ?_
  refine kw_init S0 hK hZ hA I ctX8_init q1_20 q1_1 q1_22 q1_21 rfl rfl (by decide +kernel) rfl ⟨(Nat.le_of_ble_eq_true rfl), (Nat.le_of_ble_eq_true rfl)⟩ hl.1 (Nat.le_of_ble_eq_true rfl) (kn_dec tL_law_t0 2 rfl) ⟨(Nat.le_of_ble_eq_true rfl), (Nat.le_of_ble_eq_true rfl)⟩ (fun u H locs hX8 I => ?_)
  obtain ⟨ut, ug, ur, uq, uy, uu, uc, uh, us, uw, uz, upp⟩ := u
  obtain ⟨t0, e_t_2, e_g_0, e_t_3, e_q_0, e_q_1, e_t_6, e_c_0, e_c_3, e_t_8, e_t_9, p_c_4, q_t_7, g_t_10⟩ := hX8
  refine lv_astore_n (lv' := [(1, .ref qX8), (0, .ref b)]) hx hb (kn_dec tL_law_t0 3 rfl) rfl hl (by decide) rfl (fun ls hl => ?_)
  refine kw_new (ci := 9) (fl := [0, 2, 2, 2, 2, 2, 2, 2, 2, 2, 2, 2, 2, 2, 2, 2, 2, 2, 2, 2, 2, 2, 2, 2, 2, 2, 2, 2, 2, 2, 0, 0, 0, 0, 0, 0, 0, 0, 0, 0, 2, 2, 2, 2, 2, 2, 2, 2, 2, 2, 0, 2, 2, 0, 0, 2, 2, 0, 0, 0, 2, 2, 2, 2, 2, 0, 0]) S0 hK hA I inX9 tyX9 tyX9_ok q4_195 q4_196 q1_10 rfl dflX9 (Nat.le_of_ble_eq_true rfl) (Nat.le_of_ble_eq_true rfl) (kn_dec tL_law_t0 4 rfl) (fun qX9 H I => ?_)
  refine lv_dup hx hb (kn_dec tL_law_t0 5 rfl) rfl ?_
  refine kw_init S0 hK hZ hA I ctX9_init q4_197 q1_10 q4_199 q4_198 rfl rfl (by decide +kernel) rfl ⟨(Nat.le_of_ble_eq_true rfl), (Nat.le_of_ble_eq_true rfl)⟩ hl.1 (Nat.le_of_ble_eq_true rfl) (kn_dec tL_law_t0 6 rfl) ⟨(Nat.le_of_ble_eq_true rfl), (Nat.le_of_ble_eq_true rfl)⟩ (fun ad_m H locs hX9 I => ?_)
  refine lv_astore_n (lv' := [(2, .ref qX9), (1, .ref qX8), (0, .ref b)]) hx hb (kn_dec tL_law_t0 7 rfl) rfl hl (by decide) rfl (fun ls hl => ?_)
  refine lv_iconst (v := 0) hx hb (kn_dec tL_law_t0 8 rfl) (by decide) ?_
  refine lv_istore_n (lv' := [(3, .int 0), (2, .ref qX9), (1, .ref qX8), (0, .ref b)]) hx hb (kn_dec tL_law_t0 9 rfl) rfl hl (by decide) rfl (fun ls hl => ?_)
  have I := kn_conv (w' := List.flatten [[(kTin, ut, kn_v0)], [(kHillReader, ug, kn_v0)], [(kReader, ur, v0X2)], [(kRuleReader, uq, kn_v0)], [(kReader, uy, v0X2)], [(kRule, uu, v0X3)], [(kScene, uc, v0X5)], [(kHill, uh, v0X0)], [(kState, us, v0X6)], [(kWalk, uw, v0X7)], [(kState, uz, v0X6)], kn_pool kState 20 upp (fun _ => v0X6), [(kModel, ad_m, v0X9)], [], [], []]) I (congrArg (kn_flat tc) (by simp only [List.flatten_cons, List.flatten_nil, List.append_nil, List.append_assoc, List.cons_append, List.nil_append]))
  have I := I.perm (kn_segN (segs := [[(kTin, ut, kn_v0)], [(kHillReader, ug, kn_v0)], [(kReader, ur, v0X2)], [(kRuleReader, uq, kn_v0)], [(kReader, uy, v0X2)], [(kRule, uu, v0X3)], [(kScene, uc, v0X5)], [(kHill, uh, v0X0)], [(kState, us, v0X6)], [(kWalk, uw, v0X7)], [(kState, uz, v0X6)], kn_pool kState 20 upp (fun _ => v0X6), [(kModel, ad_m, v0X9)], [], [], []]) (sgs := [[(kTin, ut, kn_v0)], [(kScene, uc, v0X5)], [(kHill, uh, v0X0)], [], [(kState, us, v0X6)], [(kWalk, uw, v0X7)], [(kState, uz, v0X6)], kn_pool kState 20 upp (fun _ => v0X6), [], [(kHillReader, ug, kn_v0)], [(kReader, ur, v0X2)], [(kRuleReader, uq, kn_v0)], [(kReader, uy, v0X2)], [(kRule, uu, v0X3)], [], [(kModel, ad_m, v0X9)]]) [0, 6, 7, 13, 8, 9, 10, 11, 14, 1, 2, 3, 4, 5, 15, 12] 16 rfl rfl rfl)
  have I : kn_I D tc (fun q => s.heap.size ≤ q) s.heap (List.flatten [[(kTin, ut, kn_v0)], [(kScene, uc, v0X5)], [(kHill, (fun _ => uh) 0, (fun _ => v0X0) 0)], kn_rest kHill 1 (fun _ => uh) (fun _ => v0X0) 0, [(kState, us, v0X6)], [(kWalk, uw, v0X7)], [(kState, uz, v0X6)], kn_pool kState 20 upp (fun _ => v0X6), kn_pool kRule 0 (fun _ => uh) (fun _ => kn_v0), [(kHillReader, ug, kn_v0)], [(kReader, ur, v0X2)], [(kRuleReader, uq, kn_v0)], [(kReader, uy, v0X2)], [(kRule, uu, v0X3)], imP (fun _ => none) (fun _ => uh) (fun _ => uh) (fun _ _ => uh), [(kModel, ad_m, v0X9)]]) H locs := I
  have hL0 : LL ut uc us uw uz ug ur uq uy uu upp (fun _ => uh) (fun _ => uh) (fun _ => uh) (fun _ => uh) (fun _ _ => uh) (fun _ => v0X0) 0 1 0 (fun _ => none) := ⟨⟨e_t_2, e_g_0, e_t_3, e_q_0, e_q_1⟩, ⟨e_t_6, e_c_0, e_c_3, e_t_8, e_t_9⟩, g_t_10, fun j hj => absurd hj (Nat.not_lt_zero j), p_c_4, by omega, fun k _ => ⟨fun _ => q_t_7 k, fun x y => absurd (show (none : Option IMG) = some x from y) (by simp)⟩⟩
  have h0 : LI D tc (fun q => s.heap.size ≤ q) s.heap qX8 qX9 H locs := LI_mk (vH := fun _ => v0X0) (i := 0) (v_pr := fun _ => kn_v0) ⟨t0, hX9⟩ hL0 rfl Sim_init I
  exact law_loop X hr hlocks 514 0 _ _ (Nat.zero_le L) (by omega) (by exact Nat.le_of_ble_eq_true rfl) (by exact Nat.le_of_ble_eq_true rfl) H locs ls h0 (lv_sub hl [3, 2, 1, 0] rfl)
