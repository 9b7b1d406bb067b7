/-! NEW OBJECTS: a constructor works on cells one by one (the kit's rows); what it has made is a chunk -/
def kn_ad0 (h : Nat) : Nat → Nat := fun j => if j = 0 then h else 0
def kn_v0 : OV := (fun _ => 0, fun _ _ => 0, fun _ _ => 0)
theorem kn_nodup_of : ∀ (l : va_W), (∀ (i j : Nat) (p q : Nat × va_E), l[i]? = some p → l[j]? = some q → p.1 = q.1 → i = j) → (l.map Prod.fst).Nodup
  | [], _ => List.Pairwise.nil
  | x :: l, h => by
    rw [List.map_cons, List.nodup_cons]
    refine ⟨fun hm => ?_, kn_nodup_of l (fun i j p q hi hj e => ?_)⟩
    · obtain ⟨y, hy, e⟩ := List.mem_map.mp hm
      obtain ⟨j, hj⟩ := List.getElem?_of_mem hy
      have := h 0 (j + 1) x y rfl hj e.symm
      omega
    · have := h (i + 1) (j + 1) p q hi hj e
      omega
/-- a world of cells is a world of chunks -/
theorem kn_D_back {tc : Nat → ClassId} {A : Nat → Prop} {w : List CH} (h : va_D A (kn_flat tc w)) : kn_D A w := by
  refine kn_D_of w ?_ (fun ch hc a ha => ?_)
  · rw [← kn_flat_map tc]
    exact kn_nodup_of _ h.1
  · rw [← kn_ads_eq tc ch] at ha
    obtain ⟨x, hx, rfl⟩ := List.mem_map.mp ha
    obtain ⟨i, hi⟩ := List.getElem?_of_mem hc
    obtain ⟨q0, hq0⟩ := List.getElem?_of_mem (kn_mem (tc := tc).mpr ⟨i, ch, hi, hx⟩)
    exact h.2 q0 x hq0
theorem kn_I_of {D : va_G} {tc : Nat → ClassId} {A : Nat → Prop} {H0 H : Heap} {locs : List Loc} (w : List CH) (hP : va_P D vwCl (kn_flat tc w) H) (hD : va_D A (kn_flat tc w)) (hS : va_S A H0 H locs) : kn_I D tc A H0 w H locs := ⟨hP, kn_D_back hD, hS⟩
/-- a new array's class is the one that is known -/
theorem kn_cAi {D : va_G} {cl : List vw_C} {tc : Nat → ClassId} {s : State} {cA : ClassId} (h0 : va_K D cl (kn_tys tc) s) (h : va_K D cl (kn_tys tc ++ [(cA, .int)]) s) : cA = tc 0 := by
  have h1 : s.vm.findClass ("[" ++ FieldType.int.toString) = some (tc 0) := (h0.2 0 _ rfl).2
  have h2 : s.vm.findClass ("[" ++ FieldType.int.toString) = some cA := (h.2 8 _ rfl).2
  exact Option.some.inj (h2.symm.trans h1)
theorem kn_cAb {D : va_G} {cl : List vw_C} {tc : Nat → ClassId} {s : State} {cA : ClassId} (h0 : va_K D cl (kn_tys tc) s) (h : va_K D cl (kn_tys tc ++ [(cA, .byte)]) s) : cA = tc 1 := by
  have h1 : s.vm.findClass ("[" ++ FieldType.byte.toString) = some (tc 1) := (h0.2 1 _ rfl).2
  have h2 : s.vm.findClass ("[" ++ FieldType.byte.toString) = some cA := (h.2 8 _ rfl).2
  exact Option.some.inj (h2.symm.trans h1)
theorem kn_cAz {D : va_G} {cl : List vw_C} {tc : Nat → ClassId} {s : State} {cA : ClassId} (h0 : va_K D cl (kn_tys tc) s) (h : va_K D cl (kn_tys tc ++ [(cA, .boolean)]) s) : cA = tc 2 := by
  have h1 : s.vm.findClass ("[" ++ FieldType.boolean.toString) = some (tc 2) := (h0.2 2 _ rfl).2
  have h2 : s.vm.findClass ("[" ++ FieldType.boolean.toString) = some cA := (h.2 8 _ rfl).2
  exact Option.some.inj (h2.symm.trans h1)
theorem kn_cAl {D : va_G} {cl : List vw_C} {tc : Nat → ClassId} {s : State} {cA : ClassId} (h0 : va_K D cl (kn_tys tc) s) (h : va_K D cl (kn_tys tc ++ [(cA, .long)]) s) : cA = tc 3 := by
  have h1 : s.vm.findClass ("[" ++ FieldType.long.toString) = some (tc 3) := (h0.2 3 _ rfl).2
  have h2 : s.vm.findClass ("[" ++ FieldType.long.toString) = some cA := (h.2 8 _ rfl).2
  exact Option.some.inj (h2.symm.trans h1)
