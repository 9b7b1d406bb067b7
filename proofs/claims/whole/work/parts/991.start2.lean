/-! 991: the tables and String constants at the law's entry -/
theorem z_one {args : Array Value} {s : State} {A : Nat → Prop} (hA : ∀ a : Nat, a < s.heap.size → ¬ A a) (hF : ∀ c ∈ zF, c.before args s = true) (hT : ∀ w ∈ lw_tbl, w.before args s = true) {i : Nat} {q : String × Nat × String × List Int32} (h : kn_str[i]? = some q) : ∃ z : Nat × Nat, vk_R q.1 q.2.1 q.2.2.1 z.1 s ∧ vk_S 1 [q.2.2.2.length] [q.2.2.2] (fun _ => z.1) (fun _ => z.2) A s s.heap := by
  have mm := z_mem h
  have hl : q.2.2.2.length < 90 := by
    have hi : i < 30 := (List.getElem?_eq_some_iff.mp h).1
    have e : kn_sb i = q.2.2.2 := by unfold kn_sb; rw [h]
    have := (sl_all i hi).2
    unfold slen at this
    rw [e] at this
    exact this
  have m0 : ∀ (k : Nat) (c : Cond), (z_strC q)[k]? = some c → c.before args s = true := fun k c hk => hF c (mm c (List.mem_of_getElem? hk))
  obtain ⟨adK, adV, hS, hE⟩ := vk_Sof (args := args) (s := s) (N := 1) (tm := fun _ => Term.string q.1 q.2.1) (len := [q.2.2.2.length]) (byt := [q.2.2.2]) (A := A) (fun k hk => by
      obtain rfl : k = 0 := by omega
      show q.2.2.2.length < 2 ^ 31
      omega) (fun k hk => m0 0 _ rfl) (fun k hk => m0 1 _ rfl) (fun k hk => m0 2 _ rfl) (fun k hk => by
      obtain rfl : k = 0 := by omega
      exact m0 3 _ rfl) (fun k hk j hj => by
      obtain rfl : k = 0 := by omega
      have hj' : j < q.2.2.2.length := hj
      refine m0 (4 + j) _ ?_
      unfold z_strC
      rw [List.getElem?_append_right (by show 4 ≤ 4 + j; omega)]
      show ((List.range q.2.2.2.length).map _)[4 + j - 4]? = _
      rw [show 4 + j - 4 = j by omega, List.getElem?_map, List.getElem?_range hj']
      rfl) (fun a b ha hb hab => absurd (show a = b by omega) hab) hA
  refine ⟨(adK 0, adV 0), vk_R.of (hT _ (z_str i q h)) (hE 0 (by omega)), ⟨fun k hk => ?_, fun a b ha hb _ => by omega⟩⟩
  obtain rfl : k = 0 := by omega
  exact hS.1 0 (by omega)
theorem z_Z {args : Array Value} {s : State} {A : Nat → Prop} (hA : ∀ a : Nat, a < s.heap.size → ¬ A a) (hF : ∀ c ∈ zF, c.before args s = true) (hT : ∀ w ∈ lw_tbl, w.before args s = true) : ∃ Z : (Nat → Nat) × (Nat → Nat), kn_Z Z A s s.heap := by
  have ex : ∀ i : Nat, ∃ z : Nat × Nat, ∀ q, kn_str[i]? = some q → vk_R q.1 q.2.1 q.2.2.1 z.1 s ∧ vk_S 1 [q.2.2.2.length] [q.2.2.2] (fun _ => z.1) (fun _ => z.2) A s s.heap := by
    intro i
    cases h : kn_str[i]? with
    | none => exact ⟨(0, 0), fun q y => by cases y⟩
    | some q =>
      obtain ⟨z, hz⟩ := z_one hA hF hT h
      exact ⟨z, fun q' y => by cases y; exact hz⟩
  obtain ⟨z, hz⟩ := Classical.axiomOfChoice ex
  refine ⟨(fun i => (z i).1, fun i => (z i).2), fun i q hq => hz i q hq, ?_, ?_, fun q hq => va_Nw.of rfl (hT _ (z_nest q hq)), fun t ht => va_AO.of (hT _ (z_over t ht)), va_AOA.of (hT _ zoI)⟩
  · exact va_Zof (hT _ zlC) (hT _ (kn_sub q1_12)) (va_eqt (hF _ (List.mem_of_getElem? zC1))) hA
  · exact va_Zqof (hT _ zlS) (hT _ (kn_sub q1_14)) (hF _ (List.mem_of_getElem? zC2)) hA
theorem z_prim {args : Array Value} {s : State} {ty : FieldType} (h : (Cond.arrayClass ty).before args s = true) : ∃ c, ArrOfT s c ty ∧ s.vm.findClass ("[" ++ ty.toString) = some c := by
  obtain ⟨c, k, comp, h1, h2, h3⟩ := Cond.arrayClass_spec h
  exact ⟨c, fun n z => ⟨fun k h => (by cases h), k, h2, comp, h3⟩, h1⟩
theorem z_obj {args : Array Value} {s : State} {C : String} (h : (Cond.arrayOver (.object C)).before args s = true) : ∃ c, ArrOfT s c (.object C) ∧ va_RA s c (.object C) := by
  obtain ⟨comp, c, k, h1, h2, h3, h4, h5⟩ := Cond.arrayOver_spec h
  exact ⟨c, fun n z => ⟨fun k h => (by cases h), k, h3, comp, h4⟩, k, comp, h3, h4, h1, h5⟩
theorem z_aoa {args : Array Value} {s : State} {ty : FieldType} (h : (Cond.arrayOver (.array ty)).before args s = true) : ∃ c, ArrOfT s c (.array ty) ∧ s.vm.findClass ("[" ++ (FieldType.array ty).toString) = some c := by
  obtain ⟨comp, c, k, h1, h2, h3, h4, h5⟩ := (va_AOA.of h).parts
  exact ⟨c, fun n z => ⟨fun k h => (by cases h), k, h3, comp, h4⟩, h5⟩
theorem z_K {args : Array Value} {s : State} (hT : ∀ w ∈ lw_tbl, w.before args s = true) : ∃ (D : va_G) (tc : Nat → ClassId), va_K D vwCl (kn_tys tc) s := by
  have hN : ∀ w ∈ kn_all, w.before args s = true := fun w h => hT w (kn_sub h)
  have ex : ∀ k : Nat, ∃ x : ClassId × (Nat → Nat), ∀ q, vwCl[k]? = some q → u_Kn s q.1 q.2.1 q.2.2 x.1 x.2 := by
    have mk : ∀ {C : String} {T : u_T} {N n : Nat}, (∀ w ∈ u_ws C T N, w ∈ kn_all) → Cond.instantiable C n ∈ kn_all → ∃ x : ClassId × (Nat → Nat), ∀ q : vw_C, some (C, T, N) = some q → u_Kn s q.1 q.2.1 q.2.2 x.1 x.2 := by
      intro C T N n h1 h2
      obtain ⟨c, iS, h⟩ := u_known (C := C) (T := T) (N := N) (n := n) hN h1 (hN _ h2)
      exact ⟨(c, iS), fun q e => by cases e; exact h⟩
    intro k
    match k with
    | 0 => exact mk inX0 q1_113
    | 1 => exact mk inX1 q1_27
    | 2 => exact mk inX2 q1_33
    | 3 => exact mk inX3 q1_69
    | 4 => exact mk inX4 q1_61
    | 5 => exact mk inX5 q1_107
    | 6 => exact mk inX6 q1_214
    | 7 => exact mk inX7 q2_68
    | 8 => exact mk inX8 q1_19
    | 9 => exact mk inX9 q4_196
    | n + 10 => exact ⟨(0, fun _ => 0), fun q h => absurd h (by rw [List.getElem?_eq_none (Nat.le_add_left 10 n)]; exact fun y => by cases y)⟩
  obtain ⟨x, hx⟩ := Classical.axiomOfChoice ex
  obtain ⟨c0, a0, b0⟩ := z_prim (hN _ q1_55)
  obtain ⟨c1, a1, b1⟩ := z_prim (hN _ q3_42)
  obtain ⟨c2, a2, b2⟩ := z_prim (hN _ q5_162)
  obtain ⟨c3, a3, b3⟩ := z_prim (hN _ q1_93)
  obtain ⟨c4, a4, b4⟩ := z_obj (hT _ zoState)
  obtain ⟨c5, a5, b5⟩ := z_obj (hT _ zoScene)
  obtain ⟨c6, a6, b6⟩ := z_obj (hT _ zoRule)
  obtain ⟨c7, a7, b7⟩ := z_aoa (hT _ zoI)
  refine ⟨(fun k => (x k).1, fun k => (x k).2), fun k => [c0, c1, c2, c3, c4, c5, c6, c7].getD k 0, fun k q h => hx k q h, fun k q h => ?_⟩
  match k, h with
  | 0, h => cases h; exact ⟨a0, b0⟩
  | 1, h => cases h; exact ⟨a1, b1⟩
  | 2, h => cases h; exact ⟨a2, b2⟩
  | 3, h => cases h; exact ⟨a3, b3⟩
  | 4, h => cases h; exact ⟨a4, b4⟩
  | 5, h => cases h; exact ⟨a5, b5⟩
  | 6, h => cases h; exact ⟨a6, b6⟩
  | 7, h => cases h; exact ⟨a7, b7⟩
  | n + 8, h => exact absurd h (by rw [List.getElem?_eq_none (show (kn_tys _).length ≤ n + 8 from Nat.le_add_left 8 n)]; exact fun y => by cases y)
